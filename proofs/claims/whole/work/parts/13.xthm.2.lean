abbrev P_TJ_step_34 (sh : Shp) (c : Nat) (v1 : Int32) (v2 : Nat) (res : (HP × Int32)) : (HP × Int32 × Int32) → Prop := fun s => Fx q_TJ_step 7 sh 34 [some (.ref c), some (.int v1), some (.ref v2), some (.int s.2.1), some (.int s.2.2)] [] s.1 (some (.int res.2)) res.1
set_option maxHeartbeats 4000000 in
set_option maxRecDepth 20000 in
theorem t_TJ_step_l34 (sh : Shp) (c : Nat) (hS : S_TJ sh c) (hp : HP) (v1 : Int32) (v2 : Nat) (hv2 : S_Cu sh v2) (res : (HP × Int32)) : ∀ (s : (HP × Int32 × Int32)) (t : (HP × Int32)), f_TJ_step_l34 c hp v1 v2 s = some t → (fun v => v = res) t → P_TJ_step_34 sh c v1 v2 res s := by
  refine loop_ind (P_TJ_step_34 sh c v1 v2 res) (fun v => v = res) ?_
  intro s t hf hk
  obtain ⟨hp, v3, v4⟩ := s
  replace hf : f_TJ_step_b34 c hp v1 v2 v3 v4 = some t := hf
  show Fx q_TJ_step 7 sh 34 [some (.ref c), some (.int v1), some (.ref v2), some (.int v3), some (.int v4)] [] hp (some (.int res.2)) res.1
  unfold f_TJ_step_b34 at hf
  refine Fx.run [(.iload 4, 2, 4, 0, .null), (.iload_n 1, 1, 1, 0, .null)] 37 (by decide +kernel) ?_
  show Fx q_TJ_step 7 sh 37 [some (.ref c), some (.int v1), some (.ref v2), some (.int v3), some (.int v4)] [.int v1, .int v4] hp (some (.int res.2)) res.1
  refine Fx.icmp_ge (27) 64 40 (by decide +kernel) (fun b4 => ?_) (fun b4 => ?_)
  · replace hf := ifp b4 hf
    replace hf := mpd hf
    obtain ⟨t, hf, rfl⟩ := hf
    refine Fx.run [(.iload_n 3, 1, 3, 0, .null)] 65 (by decide +kernel) ?_
    show Fx q_TJ_step 7 sh 65 [some (.ref c), some (.int v1), some (.ref v2), some (.int v3), some (.int v4)] [.int v3] hp (some (.int res.2)) res.1
    obtain rfl := Option.some.inj hf
    have hk : (hp, v3) = res := hk
    subst hk
    exact Fx.iret (by decide +kernel) rfl
  · replace hf := ifn b4 hf
    refine Fx.run [(.aload_n 2, 1, 2, 0, .null), (.getfield 62, 3, 1, 3, .null)] 44 (by decide +kernel) ?_
    show isK sh v2 1 ∧ Fx q_TJ_step 7 sh 44 [some (.ref c), some (.int v1), some (.ref v2), some (.int v3), some (.int v4)] [.int (hp.1 v2 3)] hp (some (.int res.2)) res.1
    refine ⟨hv2.1, ?_⟩
    refine Fx.if_eq (20) 64 47 (by decide +kernel) (fun b5 => ?_) (fun b5 => ?_)
    · replace hf := ifp b5 hf
      replace hf := mpd hf
      obtain ⟨t, hf, rfl⟩ := hf
      refine Fx.run [(.iload_n 3, 1, 3, 0, .null)] 65 (by decide +kernel) ?_
      show Fx q_TJ_step 7 sh 65 [some (.ref c), some (.int v1), some (.ref v2), some (.int v3), some (.int v4)] [.int v3] hp (some (.int res.2)) res.1
      obtain rfl := Option.some.inj hf
      have hk : (hp, v3) = res := hk
      subst hk
      exact Fx.iret (by decide +kernel) rfl
    · replace hf := ifn b5 hf
      refine Fx.run [(.aload_n 2, 1, 2, 0, .null), (.aload_n 0, 1, 0, 0, .null), (.getfield 12, 3, 8, 0, .ref 1)] 52 (by decide +kernel) ?_
      show isK sh c 8 ∧ Fx q_TJ_step 7 sh 52 [some (.ref c), some (.int v1), some (.ref v2), some (.int v3), some (.int v4)] [.ref (c + 1), .ref v2] hp (some (.int res.2)) res.1
      refine ⟨hS.1, ?_⟩
      replace hf := bnd hf
      obtain ⟨h7, hr6, hf⟩ := hf
      refine Fx.callV (rr := none) (hp1 := h7) [.ref (c + 1)] [] lk_8_137 (by decide +kernel) (t_Cu_takeEvent sh v2 (hv2) hp (c + 1) (hS.2.1) h7 hr6) ⟨Nat.le_of_ble_eq_true rfl, Nat.le_of_ble_eq_true rfl⟩ (hv2).1 (by decide) rfl (Nat.le_of_ble_eq_true rfl) ?_
      show Fx q_TJ_step 7 sh 55 [some (.ref c), some (.int v1), some (.ref v2), some (.int v3), some (.int v4)] [] h7 (some (.int res.2)) res.1
      refine Fx.run [(.iinc 3 1, 3, 3, 0, .int 1), (.iinc 4 1, 3, 4, 0, .int 1)] 61 (by decide +kernel) ?_
      show Fx q_TJ_step 7 sh 61 [some (.ref c), some (.int v1), some (.ref v2), some (.int (v3 + 1)), some (.int (v4 + 1))] [] h7 (some (.int res.2)) res.1
      refine Fx.goto (-27) 34 (by decide +kernel) ?_
      obtain rfl := Option.some.inj hf
      have hk : Fx q_TJ_step 7 sh 34 [some (.ref c), some (.int v1), some (.ref v2), some (.int (v3 + 1)), some (.int (v4 + 1))] [] h7 (some (.int res.2)) res.1 := hk
      exact Fx.le hk (And.intro rfl (And.intro rfl (And.intro rfl (And.intro rfl (And.intro rfl trivial)))))
set_option maxHeartbeats 4000000 in
set_option maxRecDepth 20000 in
theorem t_TJ_step (sh : Shp) (c : Nat) (hS : S_TJ sh c) (hp : HP) (v1 : Int32) (res : (HP × Int32)) (hf : f_TJ_step c hp v1 = some res) : Ex 7 q_TJ_step sh [.ref c, .int v1] hp (some (.int res.2)) res.1 := by
  refine Ex.of [some (.ref c), some (.int v1), none, none, none] rfl (Nat.le_of_ble_eq_true rfl) (by decide +kernel) rfl ?_
  obtain ⟨t, hk⟩ : ∃ t, t = res := ⟨res, rfl⟩
  rw [← hk] at hf
  unfold f_TJ_step at hf
  refine Fx.run [(.aload_n 0, 1, 0, 0, .null), (.getfield 12, 3, 8, 0, .ref 1), (.getfield 58, 3, 5, 4, .ref 22), (.astore_n 2, 1, 2, 0, .null), (.iload_n 1, 1, 1, 0, .null), (.iconst 1, 1, 0, 0, .int 1)] 10 (by decide +kernel) ?_
  show isK sh c 8 ∧ isK sh (c + 1) 5 ∧ Fx q_TJ_step 7 sh 10 [some (.ref c), some (.int v1), some (.ref ((c + 1) + 22)), none, none] [.int 1, .int v1] hp (some (.int res.2)) res.1
  refine ⟨hS.1, hS.2.1.1, ?_⟩
  refine Fx.icmp_lt (17) 27 13 (by decide +kernel) (fun b1 => ?_) (fun b1 => ?_)
  · replace hf := ifp b1 hf
    refine Fx.run [(.iconst (-1), 1, 0, 0, .int (-1))] 28 (by decide +kernel) ?_
    show Fx q_TJ_step 7 sh 28 [some (.ref c), some (.int v1), some (.ref ((c + 1) + 22)), none, none] [.int (-1)] hp (some (.int res.2)) res.1
    obtain rfl := Option.some.inj hf
    have hk : (hp, (-1)) = res := hk
    subst hk
    exact Fx.iret (by decide +kernel) rfl
  · replace hf := ifn b1 hf
    refine Fx.run [(.iload_n 1, 1, 1, 0, .null), (.sipush 160, 3, 0, 0, .int 160)] 17 (by decide +kernel) ?_
    show Fx q_TJ_step 7 sh 17 [some (.ref c), some (.int v1), some (.ref ((c + 1) + 22)), none, none] [.int 160, .int v1] hp (some (.int res.2)) res.1
    refine Fx.icmp_gt (10) 27 20 (by decide +kernel) (fun b2 => ?_) (fun b2 => ?_)
    · replace hf := ifp b2 hf
      refine Fx.run [(.iconst (-1), 1, 0, 0, .int (-1))] 28 (by decide +kernel) ?_
      show Fx q_TJ_step 7 sh 28 [some (.ref c), some (.int v1), some (.ref ((c + 1) + 22)), none, none] [.int (-1)] hp (some (.int res.2)) res.1
      obtain rfl := Option.some.inj hf
      have hk : (hp, (-1)) = res := hk
      subst hk
      exact Fx.iret (by decide +kernel) rfl
    · replace hf := ifn b2 hf
      refine Fx.run [(.aload_n 2, 1, 2, 0, .null), (.getfield 62, 3, 1, 3, .null)] 24 (by decide +kernel) ?_
      show isK sh ((c + 1) + 22) 1 ∧ Fx q_TJ_step 7 sh 24 [some (.ref c), some (.int v1), some (.ref ((c + 1) + 22)), none, none] [.int (hp.1 ((c + 1) + 22) 3)] hp (some (.int res.2)) res.1
      refine ⟨hS.2.1.2.2.2.2.2.1.1, ?_⟩
      refine Fx.if_ne (5) 29 27 (by decide +kernel) (fun b3 => ?_) (fun b3 => ?_)
      · replace hf := ifn b3 hf
        refine Fx.run [(.iconst 0, 1, 0, 0, .int 0), (.istore_n 3, 1, 3, 0, .null), (.iconst 0, 1, 0, 0, .int 0), (.istore 4, 2, 4, 0, .null)] 34 (by decide +kernel) ?_
        show Fx q_TJ_step 7 sh 34 [some (.ref c), some (.int v1), some (.ref ((c + 1) + 22)), some (.int 0), some (.int 0)] [] hp (some (.int res.2)) res.1
        have hl := t_TJ_step_l34 sh c hS hp v1 ((c + 1) + 22) (hS.2.1.2.2.2.2.2.1) res (hp, 0, 0) _ hf hk
        have hl : Fx q_TJ_step 7 sh 34 [some (.ref c), some (.int v1), some (.ref ((c + 1) + 22)), some (.int 0), some (.int 0)] [] hp (some (.int res.2)) res.1 := hl
        exact Fx.le hl (And.intro rfl (And.intro rfl (And.intro rfl (And.intro rfl (And.intro rfl trivial)))))
      · replace hf := ifp b3 hf
        refine Fx.run [(.iconst (-1), 1, 0, 0, .int (-1))] 28 (by decide +kernel) ?_
        show Fx q_TJ_step 7 sh 28 [some (.ref c), some (.int v1), some (.ref ((c + 1) + 22)), none, none] [.int (-1)] hp (some (.int res.2)) res.1
        obtain rfl := Option.some.inj hf
        have hk : (hp, (-1)) = res := hk
        subst hk
        exact Fx.iret (by decide +kernel) rfl
set_option maxHeartbeats 4000000 in
set_option maxRecDepth 20000 in
theorem t_TJ_leave (sh : Shp) (c : Nat) (hS : S_TJ sh c) (hp : HP)  (res : (HP × Int32)) (hf : f_TJ_leave c hp  = some res) : Ex 1 q_TJ_leave sh [.ref c] hp (some (.int res.2)) res.1 := by
  refine Ex.of [some (.ref c), none] rfl (Nat.le_of_ble_eq_true rfl) (by decide +kernel) rfl ?_
  obtain ⟨t, hk⟩ : ∃ t, t = res := ⟨res, rfl⟩
  rw [← hk] at hf
  unfold f_TJ_leave at hf
  refine Fx.run [(.aload_n 0, 1, 0, 0, .null), (.getfield 12, 3, 8, 0, .ref 1), (.getfield 58, 3, 5, 4, .ref 22), (.getfield 62, 3, 1, 3, .null), (.istore_n 1, 1, 1, 0, .null), (.aload_n 0, 1, 0, 0, .null), (.getfield 12, 3, 8, 0, .ref 1), (.getfield 58, 3, 5, 4, .ref 22), (.iconst 0, 1, 0, 0, .int 0), (.putfield 62, 3, 1, 3, .int 1), (.iload_n 1, 1, 1, 0, .null)] 23 (by decide +kernel) ?_
  show isK sh c 8 ∧ isK sh (c + 1) 5 ∧ isK sh ((c + 1) + 22) 1 ∧ isK sh c 8 ∧ isK sh (c + 1) 5 ∧ isK sh ((c + 1) + 22) 1 ∧ ((0 : Int32) = 0 ∨ (0 : Int32) = 1) ∧ Fx q_TJ_leave 1 sh 23 [some (.ref c), some (.int (hp.1 ((c + 1) + 22) 3))] [.int (hp.1 ((c + 1) + 22) 3)] (upI hp ((c + 1) + 22) 3 0) (some (.int res.2)) res.1
  refine ⟨hS.1, hS.2.1.1, hS.2.1.2.2.2.2.2.1.1, hS.1, hS.2.1.1, hS.2.1.2.2.2.2.2.1.1, (Or.inl rfl), ?_⟩
  replace hf := gd hf
  obtain ⟨g1, hf⟩ := hf
  obtain rfl := Option.some.inj hf
  have hk : ((upI hp ((c + 1) + 22) 3 0), (hp.1 ((c + 1) + 22) 3)) = res := hk
  subst hk
  exact Fx.zret (by decide +kernel) rfl g1
set_option maxHeartbeats 4000000 in
set_option maxRecDepth 20000 in
theorem t_TJ_active (sh : Shp) (c : Nat) (hS : S_TJ sh c) (hp : HP) (v1 : Int32) (v2 : Int32) (res : Int32) (hf : f_TJ_active c hp v1 v2 = some res) : Ex 2 q_TJ_active sh [.ref c, .int v1, .int v2] hp (some (.int res)) hp := by
  refine Ex.of [some (.ref c), some (.int v1), some (.int v2), none] rfl (Nat.le_of_ble_eq_true rfl) (by decide +kernel) rfl ?_
  obtain ⟨t, hk⟩ : ∃ t, t = res := ⟨res, rfl⟩
  rw [← hk] at hf
  unfold f_TJ_active at hf
  refine Fx.run [(.iload_n 1, 1, 1, 0, .null)] 1 (by decide +kernel) ?_
  show Fx q_TJ_active 2 sh 1 [some (.ref c), some (.int v1), some (.int v2), none] [.int v1] hp (some (.int res)) hp
  replace hf := bnd hf
  obtain ⟨r1, hr1, hf⟩ := hf
  refine Fx.callS (rr := (some (.int r1))) (hp1 := hp) [.int v1] [] lk_8_91 (by decide +kernel) (t_TJ_isSide sh hp v1 r1 hr1) ⟨Nat.le_of_ble_eq_true rfl, Nat.le_of_ble_eq_true rfl⟩ rfl (Nat.le_of_ble_eq_true rfl) ?_
  show Fx q_TJ_active 2 sh 4 [some (.ref c), some (.int v1), some (.int v2), none] [.int r1] hp (some (.int res)) hp
  refine Fx.if_ne (5) 9 7 (by decide +kernel) (fun b2 => ?_) (fun b2 => ?_)
  · replace hf := ifn b2 hf
    replace hf := gd hf
    obtain ⟨g3, hf⟩ := hf
    refine Fx.run [(.aload_n 0, 1, 0, 0, .null), (.getfield 12, 3, 8, 0, .ref 1), (.getfield 58, 3, 5, 4, .ref 22), (.getfield 141, 3, 1, 5, .ref 3), (.iload_n 1, 1, 1, 0, .null), (.iaload, 1, 2, 0, .null), (.istore_n 3, 1, 3, 0, .null), (.iload_n 2, 1, 2, 0, .null), (.iconst (-1), 1, 0, 0, .int (-1))] 24 (by decide +kernel) ?_
    show isK sh c 8 ∧ isK sh (c + 1) 5 ∧ isK sh ((c + 1) + 22) 1 ∧ (isA sh (((c + 1) + 22) + 3) 10 2 ∧ inb v1 2) ∧ Fx q_TJ_active 2 sh 24 [some (.ref c), some (.int v1), some (.int v2), some (.int (hp.1 (((c + 1) + 22) + 3) (ix v1)))] [.int (-1), .int v2] hp (some (.int res)) hp
    refine ⟨hS.1, hS.2.1.1, hS.2.1.2.2.2.2.2.1.1, ⟨hS.2.1.2.2.2.2.2.1.2.2.2.1, g3⟩, ?_⟩
    refine Fx.icmp_ne (5) 29 27 (by decide +kernel) (fun b4 => ?_) (fun b4 => ?_)
    · replace hf := ifn b4 hf
      refine Fx.run [(.iload_n 2, 1, 2, 0, .null)] 30 (by decide +kernel) ?_
      show Fx q_TJ_active 2 sh 30 [some (.ref c), some (.int v1), some (.int v2), some (.int (hp.1 (((c + 1) + 22) + 3) (ix v1)))] [.int v2] hp (some (.int res)) hp
      refine Fx.if_lt (28) 58 33 (by decide +kernel) (fun b5 => ?_) (fun b5 => ?_)
      · replace hf := ifp b5 hf
        refine Fx.run [(.iconst (-1), 1, 0, 0, .int (-1))] 59 (by decide +kernel) ?_
        show Fx q_TJ_active 2 sh 59 [some (.ref c), some (.int v1), some (.int v2), some (.int (hp.1 (((c + 1) + 22) + 3) (ix v1)))] [.int (-1)] hp (some (.int res)) hp
        obtain rfl := Option.some.inj hf
        have hk : (-1) = res := hk
        subst hk
        exact Fx.iret (by decide +kernel) rfl
      · replace hf := ifn b5 hf
        refine Fx.run [(.iload_n 2, 1, 2, 0, .null), (.iload_n 3, 1, 3, 0, .null)] 35 (by decide +kernel) ?_
        show Fx q_TJ_active 2 sh 35 [some (.ref c), some (.int v1), some (.int v2), some (.int (hp.1 (((c + 1) + 22) + 3) (ix v1)))] [.int (hp.1 (((c + 1) + 22) + 3) (ix v1)), .int v2] hp (some (.int res)) hp
        refine Fx.icmp_ge (23) 58 38 (by decide +kernel) (fun b6 => ?_) (fun b6 => ?_)
        · replace hf := ifp b6 hf
          refine Fx.run [(.iconst (-1), 1, 0, 0, .int (-1))] 59 (by decide +kernel) ?_
          show Fx q_TJ_active 2 sh 59 [some (.ref c), some (.int v1), some (.int v2), some (.int (hp.1 (((c + 1) + 22) + 3) (ix v1)))] [.int (-1)] hp (some (.int res)) hp
          obtain rfl := Option.some.inj hf
          have hk : (-1) = res := hk
          subst hk
          exact Fx.iret (by decide +kernel) rfl
        · replace hf := ifn b6 hf
          replace hf := gd hf
          obtain ⟨g7, hf⟩ := hf
          refine Fx.run [(.aload_n 0, 1, 0, 0, .null), (.getfield 12, 3, 8, 0, .ref 1), (.getfield 58, 3, 5, 4, .ref 22), (.getfield 144, 3, 1, 4, .ref 2), (.iload_n 1, 1, 1, 0, .null), (.bipush 40, 2, 0, 0, .int 40), (.imul, 1, 0, 0, .null), (.iload_n 2, 1, 2, 0, .null), (.iadd, 1, 0, 0, .null), (.iaload, 1, 80, 0, .null)] 55 (by decide +kernel) ?_
          show isK sh c 8 ∧ isK sh (c + 1) 5 ∧ isK sh ((c + 1) + 22) 1 ∧ (isA sh (((c + 1) + 22) + 2) 10 80 ∧ inb ((v1 * 40) + v2) 80) ∧ Fx q_TJ_active 2 sh 55 [some (.ref c), some (.int v1), some (.int v2), some (.int (hp.1 (((c + 1) + 22) + 3) (ix v1)))] [.int (hp.1 (((c + 1) + 22) + 2) (ix ((v1 * 40) + v2)))] hp (some (.int res)) hp
          refine ⟨hS.1, hS.2.1.1, hS.2.1.2.2.2.2.2.1.1, ⟨hS.2.1.2.2.2.2.2.1.2.2.1, g7⟩, ?_⟩
          refine Fx.goto (4) 59 (by decide +kernel) ?_
          obtain rfl := Option.some.inj hf
          have hk : (hp.1 (((c + 1) + 22) + 2) (ix ((v1 * 40) + v2))) = res := hk
          subst hk
          exact Fx.iret (by decide +kernel) rfl
    · replace hf := ifp b4 hf
      refine Fx.run [(.iload_n 3, 1, 3, 0, .null)] 28 (by decide +kernel) ?_
      show Fx q_TJ_active 2 sh 28 [some (.ref c), some (.int v1), some (.int v2), some (.int (hp.1 (((c + 1) + 22) + 3) (ix v1)))] [.int (hp.1 (((c + 1) + 22) + 3) (ix v1))] hp (some (.int res)) hp
      obtain rfl := Option.some.inj hf
      have hk : (hp.1 (((c + 1) + 22) + 3) (ix v1)) = res := hk
      subst hk
      exact Fx.iret (by decide +kernel) rfl
  · replace hf := ifp b2 hf
    refine Fx.run [(.iconst (-1), 1, 0, 0, .int (-1))] 8 (by decide +kernel) ?_
    show Fx q_TJ_active 2 sh 8 [some (.ref c), some (.int v1), some (.int v2), none] [.int (-1)] hp (some (.int res)) hp
    obtain rfl := Option.some.inj hf
    have hk : (-1) = res := hk
    subst hk
    exact Fx.iret (by decide +kernel) rfl
set_option maxHeartbeats 4000000 in
set_option maxRecDepth 20000 in
theorem t_St_sharedFrom (sh : Shp) (c : Nat) (hS : S_St sh c) (hp : HP) (v1 : Int32) (v2 : Int32) (res : Int32) (hf : f_St_sharedFrom c hp v1 v2 = some res) : Ex 3 q_St_sharedFrom sh [.ref c, .int v1, .int v2] hp (some (.int res)) hp := by
  refine Ex.of [some (.ref c), some (.int v1), some (.int v2)] rfl (Nat.le_of_ble_eq_true rfl) (by decide +kernel) rfl ?_
  obtain ⟨t, hk⟩ : ∃ t, t = res := ⟨res, rfl⟩
  rw [← hk] at hf
  unfold f_St_sharedFrom at hf
  refine Fx.run [(.aload_n 0, 1, 0, 0, .null), (.getfield 12, 3, 5, 0, .ref 1), (.iload_n 1, 1, 1, 0, .null)] 5 (by decide +kernel) ?_
  show isK sh c 5 ∧ Fx q_St_sharedFrom 3 sh 5 [some (.ref c), some (.int v1), some (.int v2)] [.int v1, .ref (c + 1)] hp (some (.int res)) hp
  refine ⟨hS.1, ?_⟩
  replace hf := bnd hf
  obtain ⟨r1, hr1, hf⟩ := hf
  refine Fx.callV (rr := (some (.int r1))) (hp1 := hp) [.int v1] [] lk_5_70 (by decide +kernel) (t_Ro_startPlace sh (c + 1) (hS.2.1) hp v1 r1 hr1) ⟨Nat.le_of_ble_eq_true rfl, Nat.le_of_ble_eq_true rfl⟩ (hS.2.1).1 (by decide) rfl (Nat.le_of_ble_eq_true rfl) ?_
  show Fx q_St_sharedFrom 3 sh 8 [some (.ref c), some (.int v1), some (.int v2)] [.int r1] hp (some (.int res)) hp
  refine Fx.run [(.aload_n 0, 1, 0, 0, .null), (.getfield 18, 3, 5, 1, .ref 7), (.iload_n 2, 1, 2, 0, .null)] 13 (by decide +kernel) ?_
  show isK sh c 5 ∧ Fx q_St_sharedFrom 3 sh 13 [some (.ref c), some (.int v1), some (.int v2)] [.int v2, .ref (c + 7), .int r1] hp (some (.int res)) hp
  refine ⟨hS.1, ?_⟩
  replace hf := bnd hf
  obtain ⟨r2, hr2, hf⟩ := hf
  refine Fx.callV (rr := (some (.int r2))) (hp1 := hp) [.int v2] [.int r1] lk_5_70 (by decide +kernel) (t_Ro_startPlace sh (c + 7) (hS.2.2.1) hp v2 r2 hr2) ⟨Nat.le_of_ble_eq_true rfl, Nat.le_of_ble_eq_true rfl⟩ (hS.2.2.1).1 (by decide) rfl (Nat.le_of_ble_eq_true rfl) ?_
  show Fx q_St_sharedFrom 3 sh 16 [some (.ref c), some (.int v1), some (.int v2)] [.int r2, .int r1] hp (some (.int res)) hp
  refine Fx.mmax lk_5_101 (by decide +kernel) (by decide) (Nat.le_of_ble_eq_true rfl) ?_
  show Fx q_St_sharedFrom 3 sh 19 [some (.ref c), some (.int v1), some (.int v2)] [.int (if r1 < r2 then r2 else r1)] hp (some (.int res)) hp
  obtain rfl := Option.some.inj hf
  have hk : (if r1 < r2 then r2 else r1) = res := hk
  subst hk
  exact Fx.iret (by decide +kernel) rfl
set_option maxHeartbeats 4000000 in
set_option maxRecDepth 20000 in
theorem t_TJ_timeOf (sh : Shp) (hp : HP) (v0 : Int32) (res : Int32) (hf : f_TJ_timeOf v0 = some res) : Ex 1 q_TJ_timeOf sh [.int v0] hp (some (.int res)) hp := by
  refine Ex.of [some (.int v0)] rfl (Nat.le_of_ble_eq_true rfl) (by decide +kernel) rfl ?_
  obtain ⟨t, hk⟩ : ∃ t, t = res := ⟨res, rfl⟩
  rw [← hk] at hf
  unfold f_TJ_timeOf at hf
  refine Fx.run [(.iload_n 0, 1, 0, 0, .null), (.iconst 1, 1, 0, 0, .int 1), (.ishr, 1, 0, 0, .null)] 3 (by decide +kernel) ?_
  show Fx q_TJ_timeOf 1 sh 3 [some (.int v0)] [.int (v0 >>> (1 &&& 31))] hp (some (.int res)) hp
  obtain rfl := Option.some.inj hf
  have hk : (v0 >>> (1 &&& 31)) = res := hk
  subst hk
  exact Fx.iret (by decide +kernel) rfl
set_option maxHeartbeats 4000000 in
set_option maxRecDepth 20000 in
theorem t_St_sharedTo (sh : Shp) (c : Nat) (hS : S_St sh c) (hp : HP) (v1 : Int32) (v2 : Int32) (res : Int32) (hf : f_St_sharedTo c hp v1 v2 = some res) : Ex 3 q_St_sharedTo sh [.ref c, .int v1, .int v2] hp (some (.int res)) hp := by
  refine Ex.of [some (.ref c), some (.int v1), some (.int v2)] rfl (Nat.le_of_ble_eq_true rfl) (by decide +kernel) rfl ?_
  obtain ⟨t, hk⟩ : ∃ t, t = res := ⟨res, rfl⟩
  rw [← hk] at hf
  unfold f_St_sharedTo at hf
  refine Fx.run [(.aload_n 0, 1, 0, 0, .null), (.getfield 12, 3, 5, 0, .ref 1), (.iload_n 1, 1, 1, 0, .null)] 5 (by decide +kernel) ?_
  show isK sh c 5 ∧ Fx q_St_sharedTo 3 sh 5 [some (.ref c), some (.int v1), some (.int v2)] [.int v1, .ref (c + 1)] hp (some (.int res)) hp
  refine ⟨hS.1, ?_⟩
  replace hf := bnd hf
  obtain ⟨r1, hr1, hf⟩ := hf
  refine Fx.callV (rr := (some (.int r1))) (hp1 := hp) [.int v1] [] lk_5_74 (by decide +kernel) (t_Ro_endPlace sh (c + 1) (hS.2.1) hp v1 r1 hr1) ⟨Nat.le_of_ble_eq_true rfl, Nat.le_of_ble_eq_true rfl⟩ (hS.2.1).1 (by decide) rfl (Nat.le_of_ble_eq_true rfl) ?_
  show Fx q_St_sharedTo 3 sh 8 [some (.ref c), some (.int v1), some (.int v2)] [.int r1] hp (some (.int res)) hp
  refine Fx.run [(.aload_n 0, 1, 0, 0, .null), (.getfield 18, 3, 5, 1, .ref 7), (.iload_n 2, 1, 2, 0, .null)] 13 (by decide +kernel) ?_
  show isK sh c 5 ∧ Fx q_St_sharedTo 3 sh 13 [some (.ref c), some (.int v1), some (.int v2)] [.int v2, .ref (c + 7), .int r1] hp (some (.int res)) hp
  refine ⟨hS.1, ?_⟩
  replace hf := bnd hf
  obtain ⟨r2, hr2, hf⟩ := hf
  refine Fx.callV (rr := (some (.int r2))) (hp1 := hp) [.int v2] [.int r1] lk_5_74 (by decide +kernel) (t_Ro_endPlace sh (c + 7) (hS.2.2.1) hp v2 r2 hr2) ⟨Nat.le_of_ble_eq_true rfl, Nat.le_of_ble_eq_true rfl⟩ (hS.2.2.1).1 (by decide) rfl (Nat.le_of_ble_eq_true rfl) ?_
  show Fx q_St_sharedTo 3 sh 16 [some (.ref c), some (.int v1), some (.int v2)] [.int r2, .int r1] hp (some (.int res)) hp
  refine Fx.mmin lk_5_107 (by decide +kernel) (by decide) (Nat.le_of_ble_eq_true rfl) ?_
  show Fx q_St_sharedTo 3 sh 19 [some (.ref c), some (.int v1), some (.int v2)] [.int (if r2 < r1 then r2 else r1)] hp (some (.int res)) hp
  obtain rfl := Option.some.inj hf
  have hk : (if r2 < r1 then r2 else r1) = res := hk
  subst hk
  exact Fx.iret (by decide +kernel) rfl
set_option maxHeartbeats 4000000 in
set_option maxRecDepth 20000 in
theorem t_St_sharedLong (sh : Shp) (c : Nat) (hS : S_St sh c) (hp : HP) (v1 : Int32) (v2 : Int32) (res : Int32) (hf : f_St_sharedLong c hp v1 v2 = some res) : Ex 4 q_St_sharedLong sh [.ref c, .int v1, .int v2] hp (some (.int res)) hp := by
  refine Ex.of [some (.ref c), some (.int v1), some (.int v2)] rfl (Nat.le_of_ble_eq_true rfl) (by decide +kernel) rfl ?_
  obtain ⟨t, hk⟩ : ∃ t, t = res := ⟨res, rfl⟩
  rw [← hk] at hf
  unfold f_St_sharedLong at hf
  refine Fx.run [(.aload_n 0, 1, 0, 0, .null), (.iload_n 1, 1, 1, 0, .null), (.iload_n 2, 1, 2, 0, .null)] 3 (by decide +kernel) ?_
  show Fx q_St_sharedLong 4 sh 3 [some (.ref c), some (.int v1), some (.int v2)] [.int v2, .int v1, .ref c] hp (some (.int res)) hp
  replace hf := bnd hf
  obtain ⟨r1, hr1, hf⟩ := hf
  refine Fx.callV (rr := (some (.int r1))) (hp1 := hp) [.int v1, .int v2] [] lk_5_110 (by decide +kernel) (t_St_sharedTo sh c (hS) hp v1 v2 r1 hr1) ⟨Nat.le_of_ble_eq_true rfl, Nat.le_of_ble_eq_true rfl⟩ (hS).1 (by decide) rfl (Nat.le_of_ble_eq_true rfl) ?_
  show Fx q_St_sharedLong 4 sh 6 [some (.ref c), some (.int v1), some (.int v2)] [.int r1] hp (some (.int res)) hp
  replace hf := bnd hf
  obtain ⟨r2, hr2, hf⟩ := hf
  refine Fx.callN (rr := (some (.int r2))) (hp1 := hp) [.int r1] [] lk_5_113 (by decide +kernel) (t_TJ_timeOf sh hp r1 r2 hr2) ⟨Nat.le_of_ble_eq_true rfl, Nat.le_of_ble_eq_true rfl⟩ rfl (Nat.le_of_ble_eq_true rfl) ?_
  show Fx q_St_sharedLong 4 sh 9 [some (.ref c), some (.int v1), some (.int v2)] [.int r2] hp (some (.int res)) hp
  refine Fx.run [(.aload_n 0, 1, 0, 0, .null), (.iload_n 1, 1, 1, 0, .null), (.iload_n 2, 1, 2, 0, .null)] 12 (by decide +kernel) ?_
  show Fx q_St_sharedLong 4 sh 12 [some (.ref c), some (.int v1), some (.int v2)] [.int v2, .int v1, .ref c, .int r2] hp (some (.int res)) hp
  replace hf := bnd hf
  obtain ⟨r3, hr3, hf⟩ := hf
  refine Fx.callV (rr := (some (.int r3))) (hp1 := hp) [.int v1, .int v2] [.int r2] lk_5_116 (by decide +kernel) (t_St_sharedFrom sh c (hS) hp v1 v2 r3 hr3) ⟨Nat.le_of_ble_eq_true rfl, Nat.le_of_ble_eq_true rfl⟩ (hS).1 (by decide) rfl (Nat.le_of_ble_eq_true rfl) ?_
  show Fx q_St_sharedLong 4 sh 15 [some (.ref c), some (.int v1), some (.int v2)] [.int r3, .int r2] hp (some (.int res)) hp
  replace hf := bnd hf
  obtain ⟨r4, hr4, hf⟩ := hf
  refine Fx.callN (rr := (some (.int r4))) (hp1 := hp) [.int r3] [.int r2] lk_5_113 (by decide +kernel) (t_TJ_timeOf sh hp r3 r4 hr4) ⟨Nat.le_of_ble_eq_true rfl, Nat.le_of_ble_eq_true rfl⟩ rfl (Nat.le_of_ble_eq_true rfl) ?_
  show Fx q_St_sharedLong 4 sh 18 [some (.ref c), some (.int v1), some (.int v2)] [.int r4, .int r2] hp (some (.int res)) hp
  refine Fx.run [(.isub, 1, 0, 0, .null)] 19 (by decide +kernel) ?_
  show Fx q_St_sharedLong 4 sh 19 [some (.ref c), some (.int v1), some (.int v2)] [.int (r2 - r4)] hp (some (.int res)) hp
  obtain rfl := Option.some.inj hf
  have hk : (r2 - r4) = res := hk
  subst hk
  exact Fx.iret (by decide +kernel) rfl
set_option maxHeartbeats 4000000 in
set_option maxRecDepth 20000 in
theorem t_TJ_pair (sh : Shp) (c : Nat) (hS : S_TJ sh c) (hp : HP) (v1 : Int32) (v2 : Int32) (res : Int32) (hf : f_TJ_pair c hp v1 v2 = some res) : Ex 5 q_TJ_pair sh [.ref c, .int v1, .int v2] hp (some (.int res)) hp := by
  refine Ex.of [some (.ref c), some (.int v1), some (.int v2), none, none, none] rfl (Nat.le_of_ble_eq_true rfl) (by decide +kernel) rfl ?_
  obtain ⟨t, hk⟩ : ∃ t, t = res := ⟨res, rfl⟩
  rw [← hk] at hf
  unfold f_TJ_pair at hf
  refine Fx.run [(.aload_n 0, 1, 0, 0, .null), (.getfield 12, 3, 8, 0, .ref 1), (.getfield 58, 3, 5, 4, .ref 22), (.astore_n 3, 1, 3, 0, .null), (.iload_n 1, 1, 1, 0, .null), (.iconst (-1), 1, 0, 0, .int (-1))] 10 (by decide +kernel) ?_
  show isK sh c 8 ∧ isK sh (c + 1) 5 ∧ Fx q_TJ_pair 5 sh 10 [some (.ref c), some (.int v1), some (.int v2), some (.ref ((c + 1) + 22)), none, none] [.int (-1), .int v1] hp (some (.int res)) hp
  refine ⟨hS.1, hS.2.1.1, ?_⟩
  refine Fx.icmp_ne (8) 18 13 (by decide +kernel) (fun b1 => ?_) (fun b1 => ?_)
  · replace hf := ifn b1 hf
    refine Fx.run [(.iload_n 1, 1, 1, 0, .null)] 19 (by decide +kernel) ?_
    show Fx q_TJ_pair 5 sh 19 [some (.ref c), some (.int v1), some (.int v2), some (.ref ((c + 1) + 22)), none, none] [.int v1] hp (some (.int res)) hp
    refine Fx.if_lt (11) 30 22 (by decide +kernel) (fun b2 => ?_) (fun b2 => ?_)
    · replace hf := ifp b2 hf
      refine Fx.run [(.ldc 123, 2, 0, 0, .int (-10000000))] 32 (by decide +kernel) ?_
      show Fx q_TJ_pair 5 sh 32 [some (.ref c), some (.int v1), some (.int v2), some (.ref ((c + 1) + 22)), none, none] [.int (-10000000)] hp (some (.int res)) hp
      obtain rfl := Option.some.inj hf
      have hk : (-10000000) = res := hk
      subst hk
      exact Fx.iret (by decide +kernel) rfl
    · replace hf := ifn b2 hf
      refine Fx.run [(.iload_n 1, 1, 1, 0, .null), (.aload_n 3, 1, 3, 0, .null), (.getfield 147, 3, 1, 8, .null)] 27 (by decide +kernel) ?_
      show isK sh ((c + 1) + 22) 1 ∧ Fx q_TJ_pair 5 sh 27 [some (.ref c), some (.int v1), some (.int v2), some (.ref ((c + 1) + 22)), none, none] [.int (hp.1 ((c + 1) + 22) 8), .int v1] hp (some (.int res)) hp
      refine ⟨hS.2.1.2.2.2.2.2.1.1, ?_⟩
      refine Fx.icmp_lt (6) 33 30 (by decide +kernel) (fun b3 => ?_) (fun b3 => ?_)
      · replace hf := ifp b3 hf
        replace hf := gd hf
        obtain ⟨g4, hf⟩ := hf
        replace hf := gd hf
        obtain ⟨g5, hf⟩ := hf
        refine Fx.run [(.aload_n 3, 1, 3, 0, .null), (.getfield 150, 3, 1, 7, .ref 5), (.iload_n 1, 1, 1, 0, .null), (.iaload, 1, 1600, 0, .null), (.bipush 40, 2, 0, 0, .int 40), (.idiv, 1, 0, 0, .null), (.istore 4, 2, 4, 0, .null), (.aload_n 3, 1, 3, 0, .null), (.getfield 150, 3, 1, 7, .ref 5), (.iload_n 1, 1, 1, 0, .null), (.iaload, 1, 1600, 0, .null), (.bipush 40, 2, 0, 0, .int 40), (.irem, 1, 0, 0, .null), (.istore 5, 2, 5, 0, .null), (.iload_n 2, 1, 2, 0, .null)] 56 (by decide +kernel) ?_
        show isK sh ((c + 1) + 22) 1 ∧ (isA sh (((c + 1) + 22) + 5) 10 1600 ∧ inb v1 1600) ∧ ¬ (40 : Int32) = 0 ∧ isK sh ((c + 1) + 22) 1 ∧ (isA sh (((c + 1) + 22) + 5) 10 1600 ∧ inb v1 1600) ∧ ¬ (40 : Int32) = 0 ∧ Fx q_TJ_pair 5 sh 56 [some (.ref c), some (.int v1), some (.int v2), some (.ref ((c + 1) + 22)), some (.int ((hp.1 (((c + 1) + 22) + 5) (ix v1)) / 40)), some (.int ((hp.1 (((c + 1) + 22) + 5) (ix v1)) - (hp.1 (((c + 1) + 22) + 5) (ix v1)) / 40 * 40))] [.int v2] hp (some (.int res)) hp
        refine ⟨hS.2.1.2.2.2.2.2.1.1, ⟨hS.2.1.2.2.2.2.2.1.2.2.2.2.2, g4⟩, (by decide), hS.2.1.2.2.2.2.2.1.1, ⟨hS.2.1.2.2.2.2.2.1.2.2.2.2.2, g5⟩, (by decide), ?_⟩
        by_cases b12 : v2 = 0
        · replace hf := ifp b12 hf
          refine Fx.swX 0 96 b12 (by decide +kernel) ?_
          refine Fx.run [(.iload 4, 2, 4, 0, .null)] 98 (by decide +kernel) ?_
          show Fx q_TJ_pair 5 sh 98 [some (.ref c), some (.int v1), some (.int v2), some (.ref ((c + 1) + 22)), some (.int ((hp.1 (((c + 1) + 22) + 5) (ix v1)) / 40)), some (.int ((hp.1 (((c + 1) + 22) + 5) (ix v1)) - (hp.1 (((c + 1) + 22) + 5) (ix v1)) / 40 * 40))] [.int ((hp.1 (((c + 1) + 22) + 5) (ix v1)) / 40)] hp (some (.int res)) hp
          obtain rfl := Option.some.inj hf
          have hk : ((hp.1 (((c + 1) + 22) + 5) (ix v1)) / 40) = res := hk
          subst hk
          exact Fx.iret (by decide +kernel) rfl
        replace hf := ifn b12 hf
        by_cases b13 : v2 = 1
        · replace hf := ifp b13 hf
          refine Fx.swX 1 99 b13 (by decide +kernel) ?_
          refine Fx.run [(.iload 5, 2, 5, 0, .null)] 101 (by decide +kernel) ?_
          show Fx q_TJ_pair 5 sh 101 [some (.ref c), some (.int v1), some (.int v2), some (.ref ((c + 1) + 22)), some (.int ((hp.1 (((c + 1) + 22) + 5) (ix v1)) / 40)), some (.int ((hp.1 (((c + 1) + 22) + 5) (ix v1)) - (hp.1 (((c + 1) + 22) + 5) (ix v1)) / 40 * 40))] [.int ((hp.1 (((c + 1) + 22) + 5) (ix v1)) - (hp.1 (((c + 1) + 22) + 5) (ix v1)) / 40 * 40)] hp (some (.int res)) hp
          obtain rfl := Option.some.inj hf
          have hk : ((hp.1 (((c + 1) + 22) + 5) (ix v1)) - (hp.1 (((c + 1) + 22) + 5) (ix v1)) / 40 * 40) = res := hk
          subst hk
          exact Fx.iret (by decide +kernel) rfl
        replace hf := ifn b13 hf
        by_cases b14 : v2 = 2
        · replace hf := ifp b14 hf
          refine Fx.swX 2 102 b14 (by decide +kernel) ?_
          refine Fx.run [(.aload_n 0, 1, 0, 0, .null), (.getfield 12, 3, 8, 0, .ref 1), (.iconst 0, 1, 0, 0, .int 0), (.iload 4, 2, 4, 0, .null), (.iconst 1, 1, 0, 0, .int 1), (.iload 5, 2, 5, 0, .null)] 112 (by decide +kernel) ?_
          show isK sh c 8 ∧ Fx q_TJ_pair 5 sh 112 [some (.ref c), some (.int v1), some (.int v2), some (.ref ((c + 1) + 22)), some (.int ((hp.1 (((c + 1) + 22) + 5) (ix v1)) / 40)), some (.int ((hp.1 (((c + 1) + 22) + 5) (ix v1)) - (hp.1 (((c + 1) + 22) + 5) (ix v1)) / 40 * 40))] [.int ((hp.1 (((c + 1) + 22) + 5) (ix v1)) - (hp.1 (((c + 1) + 22) + 5) (ix v1)) / 40 * 40), .int 1, .int ((hp.1 (((c + 1) + 22) + 5) (ix v1)) / 40), .int 0, .ref (c + 1)] hp (some (.int res)) hp
          refine ⟨hS.1, ?_⟩
          replace hf := bnd hf
          obtain ⟨r6, hr6, hf⟩ := hf
          refine Fx.callV (rr := (some (.int r6))) (hp1 := hp) [.int 0, .int ((hp.1 (((c + 1) + 22) + 5) (ix v1)) / 40), .int 1, .int ((hp.1 (((c + 1) + 22) + 5) (ix v1)) - (hp.1 (((c + 1) + 22) + 5) (ix v1)) / 40 * 40)] [] lk_8_153 (by decide +kernel) (t_St_kindOf sh (c + 1) (hS.2.1) hp 0 ((hp.1 (((c + 1) + 22) + 5) (ix v1)) / 40) 1 ((hp.1 (((c + 1) + 22) + 5) (ix v1)) - (hp.1 (((c + 1) + 22) + 5) (ix v1)) / 40 * 40) r6 hr6) ⟨Nat.le_of_ble_eq_true rfl, Nat.le_of_ble_eq_true rfl⟩ (hS.2.1).1 (by decide) rfl (Nat.le_of_ble_eq_true rfl) ?_
          show Fx q_TJ_pair 5 sh 115 [some (.ref c), some (.int v1), some (.int v2), some (.ref ((c + 1) + 22)), some (.int ((hp.1 (((c + 1) + 22) + 5) (ix v1)) / 40)), some (.int ((hp.1 (((c + 1) + 22) + 5) (ix v1)) - (hp.1 (((c + 1) + 22) + 5) (ix v1)) / 40 * 40))] [.int r6] hp (some (.int res)) hp
          obtain rfl := Option.some.inj hf
          have hk : r6 = res := hk
          subst hk
          exact Fx.iret (by decide +kernel) rfl
        replace hf := ifn b14 hf
        by_cases b15 : v2 = 3
        · replace hf := ifp b15 hf
          refine Fx.swX 3 116 b15 (by decide +kernel) ?_
          refine Fx.run [(.aload_n 0, 1, 0, 0, .null), (.getfield 12, 3, 8, 0, .ref 1), (.iload 4, 2, 4, 0, .null), (.iload 5, 2, 5, 0, .null)] 124 (by decide +kernel) ?_
          show isK sh c 8 ∧ Fx q_TJ_pair 5 sh 124 [some (.ref c), some (.int v1), some (.int v2), some (.ref ((c + 1) + 22)), some (.int ((hp.1 (((c + 1) + 22) + 5) (ix v1)) / 40)), some (.int ((hp.1 (((c + 1) + 22) + 5) (ix v1)) - (hp.1 (((c + 1) + 22) + 5) (ix v1)) / 40 * 40))] [.int ((hp.1 (((c + 1) + 22) + 5) (ix v1)) - (hp.1 (((c + 1) + 22) + 5) (ix v1)) / 40 * 40), .int ((hp.1 (((c + 1) + 22) + 5) (ix v1)) / 40), .ref (c + 1)] hp (some (.int res)) hp
          refine ⟨hS.1, ?_⟩
          replace hf := bnd hf
          obtain ⟨r7, hr7, hf⟩ := hf
          refine Fx.callV (rr := (some (.int r7))) (hp1 := hp) [.int ((hp.1 (((c + 1) + 22) + 5) (ix v1)) / 40), .int ((hp.1 (((c + 1) + 22) + 5) (ix v1)) - (hp.1 (((c + 1) + 22) + 5) (ix v1)) / 40 * 40)] [] lk_8_156 (by decide +kernel) (t_St_sharedFrom sh (c + 1) (hS.2.1) hp ((hp.1 (((c + 1) + 22) + 5) (ix v1)) / 40) ((hp.1 (((c + 1) + 22) + 5) (ix v1)) - (hp.1 (((c + 1) + 22) + 5) (ix v1)) / 40 * 40) r7 hr7) ⟨Nat.le_of_ble_eq_true rfl, Nat.le_of_ble_eq_true rfl⟩ (hS.2.1).1 (by decide) rfl (Nat.le_of_ble_eq_true rfl) ?_
          show Fx q_TJ_pair 5 sh 127 [some (.ref c), some (.int v1), some (.int v2), some (.ref ((c + 1) + 22)), some (.int ((hp.1 (((c + 1) + 22) + 5) (ix v1)) / 40)), some (.int ((hp.1 (((c + 1) + 22) + 5) (ix v1)) - (hp.1 (((c + 1) + 22) + 5) (ix v1)) / 40 * 40))] [.int r7] hp (some (.int res)) hp
          replace hf := bnd hf
          obtain ⟨r8, hr8, hf⟩ := hf
          refine Fx.callS (rr := (some (.int r8))) (hp1 := hp) [.int r7] [] lk_8_160 (by decide +kernel) (t_TJ_timeOf sh hp r7 r8 hr8) ⟨Nat.le_of_ble_eq_true rfl, Nat.le_of_ble_eq_true rfl⟩ rfl (Nat.le_of_ble_eq_true rfl) ?_
          show Fx q_TJ_pair 5 sh 130 [some (.ref c), some (.int v1), some (.int v2), some (.ref ((c + 1) + 22)), some (.int ((hp.1 (((c + 1) + 22) + 5) (ix v1)) / 40)), some (.int ((hp.1 (((c + 1) + 22) + 5) (ix v1)) - (hp.1 (((c + 1) + 22) + 5) (ix v1)) / 40 * 40))] [.int r8] hp (some (.int res)) hp
          obtain rfl := Option.some.inj hf
          have hk : r8 = res := hk
          subst hk
          exact Fx.iret (by decide +kernel) rfl
        replace hf := ifn b15 hf
        by_cases b16 : v2 = 4
        · replace hf := ifp b16 hf
          refine Fx.swX 4 131 b16 (by decide +kernel) ?_
          refine Fx.run [(.aload_n 0, 1, 0, 0, .null), (.getfield 12, 3, 8, 0, .ref 1), (.iload 4, 2, 4, 0, .null), (.iload 5, 2, 5, 0, .null)] 139 (by decide +kernel) ?_
          show isK sh c 8 ∧ Fx q_TJ_pair 5 sh 139 [some (.ref c), some (.int v1), some (.int v2), some (.ref ((c + 1) + 22)), some (.int ((hp.1 (((c + 1) + 22) + 5) (ix v1)) / 40)), some (.int ((hp.1 (((c + 1) + 22) + 5) (ix v1)) - (hp.1 (((c + 1) + 22) + 5) (ix v1)) / 40 * 40))] [.int ((hp.1 (((c + 1) + 22) + 5) (ix v1)) - (hp.1 (((c + 1) + 22) + 5) (ix v1)) / 40 * 40), .int ((hp.1 (((c + 1) + 22) + 5) (ix v1)) / 40), .ref (c + 1)] hp (some (.int res)) hp
          refine ⟨hS.1, ?_⟩
          replace hf := bnd hf
          obtain ⟨r9, hr9, hf⟩ := hf
          refine Fx.callV (rr := (some (.int r9))) (hp1 := hp) [.int ((hp.1 (((c + 1) + 22) + 5) (ix v1)) / 40), .int ((hp.1 (((c + 1) + 22) + 5) (ix v1)) - (hp.1 (((c + 1) + 22) + 5) (ix v1)) / 40 * 40)] [] lk_8_164 (by decide +kernel) (t_St_sharedTo sh (c + 1) (hS.2.1) hp ((hp.1 (((c + 1) + 22) + 5) (ix v1)) / 40) ((hp.1 (((c + 1) + 22) + 5) (ix v1)) - (hp.1 (((c + 1) + 22) + 5) (ix v1)) / 40 * 40) r9 hr9) ⟨Nat.le_of_ble_eq_true rfl, Nat.le_of_ble_eq_true rfl⟩ (hS.2.1).1 (by decide) rfl (Nat.le_of_ble_eq_true rfl) ?_
          show Fx q_TJ_pair 5 sh 142 [some (.ref c), some (.int v1), some (.int v2), some (.ref ((c + 1) + 22)), some (.int ((hp.1 (((c + 1) + 22) + 5) (ix v1)) / 40)), some (.int ((hp.1 (((c + 1) + 22) + 5) (ix v1)) - (hp.1 (((c + 1) + 22) + 5) (ix v1)) / 40 * 40))] [.int r9] hp (some (.int res)) hp
          replace hf := bnd hf
          obtain ⟨r10, hr10, hf⟩ := hf
          refine Fx.callS (rr := (some (.int r10))) (hp1 := hp) [.int r9] [] lk_8_160 (by decide +kernel) (t_TJ_timeOf sh hp r9 r10 hr10) ⟨Nat.le_of_ble_eq_true rfl, Nat.le_of_ble_eq_true rfl⟩ rfl (Nat.le_of_ble_eq_true rfl) ?_
          show Fx q_TJ_pair 5 sh 145 [some (.ref c), some (.int v1), some (.int v2), some (.ref ((c + 1) + 22)), some (.int ((hp.1 (((c + 1) + 22) + 5) (ix v1)) / 40)), some (.int ((hp.1 (((c + 1) + 22) + 5) (ix v1)) - (hp.1 (((c + 1) + 22) + 5) (ix v1)) / 40 * 40))] [.int r10] hp (some (.int res)) hp
          obtain rfl := Option.some.inj hf
          have hk : r10 = res := hk
          subst hk
          exact Fx.iret (by decide +kernel) rfl
        replace hf := ifn b16 hf
        by_cases b17 : v2 = 5
        · replace hf := ifp b17 hf
          refine Fx.swX 5 146 b17 (by decide +kernel) ?_
          refine Fx.run [(.aload_n 0, 1, 0, 0, .null), (.getfield 12, 3, 8, 0, .ref 1), (.iload 4, 2, 4, 0, .null), (.iload 5, 2, 5, 0, .null)] 154 (by decide +kernel) ?_
          show isK sh c 8 ∧ Fx q_TJ_pair 5 sh 154 [some (.ref c), some (.int v1), some (.int v2), some (.ref ((c + 1) + 22)), some (.int ((hp.1 (((c + 1) + 22) + 5) (ix v1)) / 40)), some (.int ((hp.1 (((c + 1) + 22) + 5) (ix v1)) - (hp.1 (((c + 1) + 22) + 5) (ix v1)) / 40 * 40))] [.int ((hp.1 (((c + 1) + 22) + 5) (ix v1)) - (hp.1 (((c + 1) + 22) + 5) (ix v1)) / 40 * 40), .int ((hp.1 (((c + 1) + 22) + 5) (ix v1)) / 40), .ref (c + 1)] hp (some (.int res)) hp
          refine ⟨hS.1, ?_⟩
          replace hf := bnd hf
          obtain ⟨r11, hr11, hf⟩ := hf
          refine Fx.callV (rr := (some (.int r11))) (hp1 := hp) [.int ((hp.1 (((c + 1) + 22) + 5) (ix v1)) / 40), .int ((hp.1 (((c + 1) + 22) + 5) (ix v1)) - (hp.1 (((c + 1) + 22) + 5) (ix v1)) / 40 * 40)] [] lk_8_167 (by decide +kernel) (t_St_sharedLong sh (c + 1) (hS.2.1) hp ((hp.1 (((c + 1) + 22) + 5) (ix v1)) / 40) ((hp.1 (((c + 1) + 22) + 5) (ix v1)) - (hp.1 (((c + 1) + 22) + 5) (ix v1)) / 40 * 40) r11 hr11) ⟨Nat.le_of_ble_eq_true rfl, Nat.le_of_ble_eq_true rfl⟩ (hS.2.1).1 (by decide) rfl (Nat.le_of_ble_eq_true rfl) ?_
          show Fx q_TJ_pair 5 sh 157 [some (.ref c), some (.int v1), some (.int v2), some (.ref ((c + 1) + 22)), some (.int ((hp.1 (((c + 1) + 22) + 5) (ix v1)) / 40)), some (.int ((hp.1 (((c + 1) + 22) + 5) (ix v1)) - (hp.1 (((c + 1) + 22) + 5) (ix v1)) / 40 * 40))] [.int r11] hp (some (.int res)) hp
          obtain rfl := Option.some.inj hf
          have hk : r11 = res := hk
          subst hk
          exact Fx.iret (by decide +kernel) rfl
        replace hf := ifn b17 hf
        refine Fx.swD [0, 1, 2, 3, 4, 5] 158 (by decide +kernel) (List.forall_mem_cons.mpr ⟨b12, (List.forall_mem_cons.mpr ⟨b13, (List.forall_mem_cons.mpr ⟨b14, (List.forall_mem_cons.mpr ⟨b15, (List.forall_mem_cons.mpr ⟨b16, (List.forall_mem_cons.mpr ⟨b17, (fun _ h => absurd h List.not_mem_nil)⟩)⟩)⟩)⟩)⟩)⟩) ?_
        refine Fx.run [(.ldc 123, 2, 0, 0, .int (-10000000))] 160 (by decide +kernel) ?_
        show Fx q_TJ_pair 5 sh 160 [some (.ref c), some (.int v1), some (.int v2), some (.ref ((c + 1) + 22)), some (.int ((hp.1 (((c + 1) + 22) + 5) (ix v1)) / 40)), some (.int ((hp.1 (((c + 1) + 22) + 5) (ix v1)) - (hp.1 (((c + 1) + 22) + 5) (ix v1)) / 40 * 40))] [.int (-10000000)] hp (some (.int res)) hp
        obtain rfl := Option.some.inj hf
        have hk : (-10000000) = res := hk
        subst hk
        exact Fx.iret (by decide +kernel) rfl
      · replace hf := ifn b3 hf
        refine Fx.run [(.ldc 123, 2, 0, 0, .int (-10000000))] 32 (by decide +kernel) ?_
        show Fx q_TJ_pair 5 sh 32 [some (.ref c), some (.int v1), some (.int v2), some (.ref ((c + 1) + 22)), none, none] [.int (-10000000)] hp (some (.int res)) hp
        obtain rfl := Option.some.inj hf
        have hk : (-10000000) = res := hk
        subst hk
        exact Fx.iret (by decide +kernel) rfl
  · replace hf := ifp b1 hf
    refine Fx.run [(.aload_n 3, 1, 3, 0, .null), (.getfield 147, 3, 1, 8, .null)] 17 (by decide +kernel) ?_
    show isK sh ((c + 1) + 22) 1 ∧ Fx q_TJ_pair 5 sh 17 [some (.ref c), some (.int v1), some (.int v2), some (.ref ((c + 1) + 22)), none, none] [.int (hp.1 ((c + 1) + 22) 8)] hp (some (.int res)) hp
    refine ⟨hS.2.1.2.2.2.2.2.1.1, ?_⟩
    obtain rfl := Option.some.inj hf
    have hk : (hp.1 ((c + 1) + 22) 8) = res := hk
    subst hk
    exact Fx.iret (by decide +kernel) rfl
set_option maxHeartbeats 4000000 in
set_option maxRecDepth 20000 in
theorem t_TJ_swept (sh : Shp) (c : Nat) (hS : S_TJ sh c) (hp : HP) (v1 : Int32) (res : Int32) (hf : f_TJ_swept c hp v1 = some res) : Ex 3 q_TJ_swept sh [.ref c, .int v1] hp (some (.int res)) hp := by
  refine Ex.of [some (.ref c), some (.int v1), none] rfl (Nat.le_of_ble_eq_true rfl) (by decide +kernel) rfl ?_
  obtain ⟨t, hk⟩ : ∃ t, t = res := ⟨res, rfl⟩
  rw [← hk] at hf
  unfold f_TJ_swept at hf
  refine Fx.run [(.aload_n 0, 1, 0, 0, .null), (.getfield 12, 3, 8, 0, .ref 1), (.getfield 58, 3, 5, 4, .ref 22), (.astore_n 2, 1, 2, 0, .null), (.iload_n 1, 1, 1, 0, .null)] 9 (by decide +kernel) ?_
  show isK sh c 8 ∧ isK sh (c + 1) 5 ∧ Fx q_TJ_swept 3 sh 9 [some (.ref c), some (.int v1), some (.ref ((c + 1) + 22))] [.int v1] hp (some (.int res)) hp
  refine ⟨hS.1, hS.2.1.1, ?_⟩
  by_cases b3 : v1 = 0
  · replace hf := ifp b3 hf
    refine Fx.swX 0 56 b3 (by decide +kernel) ?_
    refine Fx.run [(.aload_n 2, 1, 2, 0, .null), (.getfield 68, 3, 1, 2, .null)] 60 (by decide +kernel) ?_
    show isK sh ((c + 1) + 22) 1 ∧ Fx q_TJ_swept 3 sh 60 [some (.ref c), some (.int v1), some (.ref ((c + 1) + 22))] [.int (hp.1 ((c + 1) + 22) 2)] hp (some (.int res)) hp
    refine ⟨hS.2.1.2.2.2.2.2.1.1, ?_⟩
    obtain rfl := Option.some.inj hf
    have hk : (hp.1 ((c + 1) + 22) 2) = res := hk
    subst hk
    exact Fx.iret (by decide +kernel) rfl
  replace hf := ifn b3 hf
  by_cases b4 : v1 = 1
  · replace hf := ifp b4 hf
    refine Fx.swX 1 61 b4 (by decide +kernel) ?_
    refine Fx.run [(.aload_n 2, 1, 2, 0, .null), (.getfield 134, 3, 1, 1, .null), (.aload_n 2, 1, 2, 0, .null), (.getfield 68, 3, 1, 2, .null), (.isub, 1, 0, 0, .null)] 70 (by decide +kernel) ?_
    show isK sh ((c + 1) + 22) 1 ∧ isK sh ((c + 1) + 22) 1 ∧ Fx q_TJ_swept 3 sh 70 [some (.ref c), some (.int v1), some (.ref ((c + 1) + 22))] [.int ((hp.1 ((c + 1) + 22) 1) - (hp.1 ((c + 1) + 22) 2))] hp (some (.int res)) hp
    refine ⟨hS.2.1.2.2.2.2.2.1.1, hS.2.1.2.2.2.2.2.1.1, ?_⟩
    obtain rfl := Option.some.inj hf
    have hk : ((hp.1 ((c + 1) + 22) 1) - (hp.1 ((c + 1) + 22) 2)) = res := hk
    subst hk
    exact Fx.iret (by decide +kernel) rfl
  replace hf := ifn b4 hf
  by_cases b5 : v1 = 2
  · replace hf := ifp b5 hf
    refine Fx.swX 2 71 b5 (by decide +kernel) ?_
    refine Fx.run [(.aload_n 2, 1, 2, 0, .null)] 72 (by decide +kernel) ?_
    show Fx q_TJ_swept 3 sh 72 [some (.ref c), some (.int v1), some (.ref ((c + 1) + 22))] [.ref ((c + 1) + 22)] hp (some (.int res)) hp
    replace hf := bnd hf
    obtain ⟨r1, hr1, hf⟩ := hf
    refine Fx.callV (rr := (some (.int r1))) (hp1 := hp) [] [] lk_8_170 (by decide +kernel) (t_Cu_heads sh ((c + 1) + 22) (hS.2.1.2.2.2.2.2.1) hp r1 hr1) ⟨Nat.le_of_ble_eq_true rfl, Nat.le_of_ble_eq_true rfl⟩ (hS.2.1.2.2.2.2.2.1).1 (by decide) rfl (Nat.le_of_ble_eq_true rfl) ?_
    show Fx q_TJ_swept 3 sh 75 [some (.ref c), some (.int v1), some (.ref ((c + 1) + 22))] [.int r1] hp (some (.int res)) hp
    obtain rfl := Option.some.inj hf
    have hk : r1 = res := hk
    subst hk
    exact Fx.iret (by decide +kernel) rfl
  replace hf := ifn b5 hf
  by_cases b6 : v1 = 3
  · replace hf := ifp b6 hf
    refine Fx.swX 3 76 b6 (by decide +kernel) ?_
    refine Fx.run [(.aload_n 2, 1, 2, 0, .null)] 77 (by decide +kernel) ?_
    show Fx q_TJ_swept 3 sh 77 [some (.ref c), some (.int v1), some (.ref ((c + 1) + 22))] [.ref ((c + 1) + 22)] hp (some (.int res)) hp
    replace hf := bnd hf
    obtain ⟨r2, hr2, hf⟩ := hf
    refine Fx.callV (rr := (some (.int r2))) (hp1 := hp) [] [] lk_8_174 (by decide +kernel) (t_Cu_held sh ((c + 1) + 22) (hS.2.1.2.2.2.2.2.1) hp r2 hr2) ⟨Nat.le_of_ble_eq_true rfl, Nat.le_of_ble_eq_true rfl⟩ (hS.2.1.2.2.2.2.2.1).1 (by decide) rfl (Nat.le_of_ble_eq_true rfl) ?_
    show Fx q_TJ_swept 3 sh 80 [some (.ref c), some (.int v1), some (.ref ((c + 1) + 22))] [.int r2] hp (some (.int res)) hp
    obtain rfl := Option.some.inj hf
    have hk : r2 = res := hk
    subst hk
    exact Fx.iret (by decide +kernel) rfl
  replace hf := ifn b6 hf
  by_cases b7 : v1 = 4
  · replace hf := ifp b7 hf
    refine Fx.swX 4 81 b7 (by decide +kernel) ?_
    refine Fx.run [(.aload_n 2, 1, 2, 0, .null), (.getfield 177, 3, 1, 9, .null)] 85 (by decide +kernel) ?_
    show isK sh ((c + 1) + 22) 1 ∧ Fx q_TJ_swept 3 sh 85 [some (.ref c), some (.int v1), some (.ref ((c + 1) + 22))] [.int (hp.1 ((c + 1) + 22) 9)] hp (some (.int res)) hp
    refine ⟨hS.2.1.2.2.2.2.2.1.1, ?_⟩
    obtain rfl := Option.some.inj hf
    have hk : (hp.1 ((c + 1) + 22) 9) = res := hk
    subst hk
    exact Fx.iret (by decide +kernel) rfl
  replace hf := ifn b7 hf
  by_cases b8 : v1 = 5
  · replace hf := ifp b8 hf
    refine Fx.swX 5 86 b8 (by decide +kernel) ?_
    refine Fx.run [(.aload_n 2, 1, 2, 0, .null), (.getfield 180, 3, 1, 10, .null)] 90 (by decide +kernel) ?_
    show isK sh ((c + 1) + 22) 1 ∧ Fx q_TJ_swept 3 sh 90 [some (.ref c), some (.int v1), some (.ref ((c + 1) + 22))] [.int (hp.1 ((c + 1) + 22) 10)] hp (some (.int res)) hp
    refine ⟨hS.2.1.2.2.2.2.2.1.1, ?_⟩
    obtain rfl := Option.some.inj hf
    have hk : (hp.1 ((c + 1) + 22) 10) = res := hk
    subst hk
    exact Fx.iret (by decide +kernel) rfl
  replace hf := ifn b8 hf
  by_cases b9 : v1 = 6
  · replace hf := ifp b9 hf
    refine Fx.swX 6 91 b9 (by decide +kernel) ?_
    refine Fx.run [(.aload_n 2, 1, 2, 0, .null), (.getfield 183, 3, 1, 11, .null)] 95 (by decide +kernel) ?_
    show isK sh ((c + 1) + 22) 1 ∧ Fx q_TJ_swept 3 sh 95 [some (.ref c), some (.int v1), some (.ref ((c + 1) + 22))] [.int (hp.1 ((c + 1) + 22) 11)] hp (some (.int res)) hp
    refine ⟨hS.2.1.2.2.2.2.2.1.1, ?_⟩
    obtain rfl := Option.some.inj hf
    have hk : (hp.1 ((c + 1) + 22) 11) = res := hk
    subst hk
    exact Fx.iret (by decide +kernel) rfl
  replace hf := ifn b9 hf
  by_cases b10 : v1 = 7
  · replace hf := ifp b10 hf
    refine Fx.swX 7 96 b10 (by decide +kernel) ?_
    refine Fx.run [(.aload_n 2, 1, 2, 0, .null), (.getfield 186, 3, 1, 12, .null)] 100 (by decide +kernel) ?_
    show isK sh ((c + 1) + 22) 1 ∧ Fx q_TJ_swept 3 sh 100 [some (.ref c), some (.int v1), some (.ref ((c + 1) + 22))] [.int (hp.1 ((c + 1) + 22) 12)] hp (some (.int res)) hp
    refine ⟨hS.2.1.2.2.2.2.2.1.1, ?_⟩
    obtain rfl := Option.some.inj hf
    have hk : (hp.1 ((c + 1) + 22) 12) = res := hk
    subst hk
    exact Fx.iret (by decide +kernel) rfl
  replace hf := ifn b10 hf
  refine Fx.swD [0, 1, 2, 3, 4, 5, 6, 7] 101 (by decide +kernel) (List.forall_mem_cons.mpr ⟨b3, (List.forall_mem_cons.mpr ⟨b4, (List.forall_mem_cons.mpr ⟨b5, (List.forall_mem_cons.mpr ⟨b6, (List.forall_mem_cons.mpr ⟨b7, (List.forall_mem_cons.mpr ⟨b8, (List.forall_mem_cons.mpr ⟨b9, (List.forall_mem_cons.mpr ⟨b10, (fun _ h => absurd h List.not_mem_nil)⟩)⟩)⟩)⟩)⟩)⟩)⟩)⟩) ?_
  refine Fx.run [(.ldc 123, 2, 0, 0, .int (-10000000))] 103 (by decide +kernel) ?_
  show Fx q_TJ_swept 3 sh 103 [some (.ref c), some (.int v1), some (.ref ((c + 1) + 22))] [.int (-10000000)] hp (some (.int res)) hp
  obtain rfl := Option.some.inj hf
  have hk : (-10000000) = res := hk
  subst hk
  exact Fx.iret (by decide +kernel) rfl
set_option maxHeartbeats 4000000 in
set_option maxRecDepth 20000 in
theorem t_TJ_isRow (sh : Shp) (c : Nat) (hS : S_TJ sh c) (hp : HP) (v1 : Int32) (v2 : Int32) (res : Int32) (hf : f_TJ_isRow c hp v1 v2 = some res) : Ex 2 q_TJ_isRow sh [.ref c, .int v1, .int v2] hp (some (.int res)) hp := by
  refine Ex.of [some (.ref c), some (.int v1), some (.int v2)] rfl (Nat.le_of_ble_eq_true rfl) (by decide +kernel) rfl ?_
  obtain ⟨t, hk⟩ : ∃ t, t = res := ⟨res, rfl⟩
  rw [← hk] at hf
  unfold f_TJ_isRow at hf
  refine Fx.run [(.iload_n 1, 1, 1, 0, .null)] 1 (by decide +kernel) ?_
  show Fx q_TJ_isRow 2 sh 1 [some (.ref c), some (.int v1), some (.int v2)] [.int v1] hp (some (.int res)) hp
  replace hf := bnd hf
  obtain ⟨r1, hr1, hf⟩ := hf
  refine Fx.callS (rr := (some (.int r1))) (hp1 := hp) [.int v1] [] lk_8_91 (by decide +kernel) (t_TJ_isSide sh hp v1 r1 hr1) ⟨Nat.le_of_ble_eq_true rfl, Nat.le_of_ble_eq_true rfl⟩ rfl (Nat.le_of_ble_eq_true rfl) ?_
  show Fx q_TJ_isRow 2 sh 4 [some (.ref c), some (.int v1), some (.int v2)] [.int r1] hp (some (.int res)) hp
  refine Fx.if_eq (22) 26 7 (by decide +kernel) (fun b2 => ?_) (fun b2 => ?_)
  · replace hf := ifp b2 hf
    refine Fx.run [(.iconst 0, 1, 0, 0, .int 0)] 27 (by decide +kernel) ?_
    show Fx q_TJ_isRow 2 sh 27 [some (.ref c), some (.int v1), some (.int v2)] [.int 0] hp (some (.int res)) hp
    obtain rfl := Option.some.inj hf
    have hk : 0 = res := hk
    subst hk
    exact Fx.zret (by decide +kernel) rfl (Or.inl rfl)
  · replace hf := ifn b2 hf
    refine Fx.run [(.aload_n 0, 1, 0, 0, .null), (.getfield 12, 3, 8, 0, .ref 1), (.iload_n 1, 1, 1, 0, .null)] 12 (by decide +kernel) ?_
    show isK sh c 8 ∧ Fx q_TJ_isRow 2 sh 12 [some (.ref c), some (.int v1), some (.int v2)] [.int v1, .ref (c + 1)] hp (some (.int res)) hp
    refine ⟨hS.1, ?_⟩
    replace hf := bnd hf
    obtain ⟨r3, hr3, hf⟩ := hf
    refine Fx.callV (rr := (some (.ref r3))) (hp1 := hp) [.int v1] [] lk_8_95 (by decide +kernel) (t_St_rowsOf sh (c + 1) (hS.2.1) hp v1 r3 hr3) ⟨Nat.le_of_ble_eq_true rfl, Nat.le_of_ble_eq_true rfl⟩ (hS.2.1).1 (by decide) rfl (Nat.le_of_ble_eq_true rfl) ?_
    show Fx q_TJ_isRow 2 sh 15 [some (.ref c), some (.int v1), some (.int v2)] [.ref r3] hp (some (.int res)) hp
    refine Fx.run [(.iload_n 2, 1, 2, 0, .null)] 16 (by decide +kernel) ?_
    show Fx q_TJ_isRow 2 sh 16 [some (.ref c), some (.int v1), some (.int v2)] [.int v2, .ref r3] hp (some (.int res)) hp
    replace hf := bnd hf
    obtain ⟨r4, hr4, hf⟩ := hf
    refine Fx.callV (rr := (some (.int r4))) (hp1 := hp) [.int v2] [] lk_8_387 (by decide +kernel) (t_Ro_has sh r3 ((rowsOf_S hS.2.1 hr3)) hp v2 r4 hr4) ⟨Nat.le_of_ble_eq_true rfl, Nat.le_of_ble_eq_true rfl⟩ ((rowsOf_S hS.2.1 hr3)).1 (by decide) rfl (Nat.le_of_ble_eq_true rfl) ?_
    show Fx q_TJ_isRow 2 sh 19 [some (.ref c), some (.int v1), some (.int v2)] [.int r4] hp (some (.int res)) hp
    refine Fx.if_eq (7) 26 22 (by decide +kernel) (fun b5 => ?_) (fun b5 => ?_)
    · replace hf := ifp b5 hf
      refine Fx.run [(.iconst 0, 1, 0, 0, .int 0)] 27 (by decide +kernel) ?_
      show Fx q_TJ_isRow 2 sh 27 [some (.ref c), some (.int v1), some (.int v2)] [.int 0] hp (some (.int res)) hp
      obtain rfl := Option.some.inj hf
      have hk : 0 = res := hk
      subst hk
      exact Fx.zret (by decide +kernel) rfl (Or.inl rfl)
    · replace hf := ifn b5 hf
      refine Fx.run [(.iconst 1, 1, 0, 0, .int 1)] 23 (by decide +kernel) ?_
      show Fx q_TJ_isRow 2 sh 23 [some (.ref c), some (.int v1), some (.int v2)] [.int 1] hp (some (.int res)) hp
      refine Fx.goto (4) 27 (by decide +kernel) ?_
      obtain rfl := Option.some.inj hf
      have hk : 1 = res := hk
      subst hk
      exact Fx.zret (by decide +kernel) rfl (Or.inr rfl)
set_option maxHeartbeats 4000000 in
set_option maxRecDepth 20000 in
theorem t_Ro_longOf (sh : Shp) (c : Nat) (hS : S_Ro sh c) (hp : HP) (v1 : Int32) (res : Int32) (hf : f_Ro_longOf c hp v1 = some res) : Ex 2 q_Ro_longOf sh [.ref c, .int v1] hp (some (.int res)) hp := by
  refine Ex.of [some (.ref c), some (.int v1)] rfl (Nat.le_of_ble_eq_true rfl) (by decide +kernel) rfl ?_
  obtain ⟨t, hk⟩ : ∃ t, t = res := ⟨res, rfl⟩
  rw [← hk] at hf
  unfold f_Ro_longOf at hf
  refine Fx.run [(.aload_n 0, 1, 0, 0, .null), (.iload_n 1, 1, 1, 0, .null)] 2 (by decide +kernel) ?_
  show Fx q_Ro_longOf 2 sh 2 [some (.ref c), some (.int v1)] [.int v1, .ref c] hp (some (.int res)) hp
  replace hf := bnd hf
  obtain ⟨r1, hr1, hf⟩ := hf
  refine Fx.callV (rr := (some (.int r1))) (hp1 := hp) [.int v1] [] lk_4_51 (by decide +kernel) (t_Ro_has sh c (hS) hp v1 r1 hr1) ⟨Nat.le_of_ble_eq_true rfl, Nat.le_of_ble_eq_true rfl⟩ (hS).1 (by decide) rfl (Nat.le_of_ble_eq_true rfl) ?_
  show Fx q_Ro_longOf 2 sh 5 [some (.ref c), some (.int v1)] [.int r1] hp (some (.int res)) hp
  refine Fx.if_eq (19) 24 8 (by decide +kernel) (fun b2 => ?_) (fun b2 => ?_)
  · replace hf := ifp b2 hf
    refine Fx.run [(.iconst 0, 1, 0, 0, .int 0)] 25 (by decide +kernel) ?_
    show Fx q_Ro_longOf 2 sh 25 [some (.ref c), some (.int v1)] [.int 0] hp (some (.int res)) hp
    obtain rfl := Option.some.inj hf
    have hk : 0 = res := hk
    subst hk
    exact Fx.iret (by decide +kernel) rfl
  · replace hf := ifn b2 hf
    replace hf := gd hf
    obtain ⟨g3, hf⟩ := hf
    replace hf := gd hf
    obtain ⟨g4, hf⟩ := hf
    refine Fx.run [(.aload_n 0, 1, 0, 0, .null), (.getfield 21, 3, 4, 3, .ref 4), (.iload_n 1, 1, 1, 0, .null), (.iaload, 1, 40, 0, .null), (.aload_n 0, 1, 0, 0, .null), (.getfield 18, 3, 4, 2, .ref 3), (.iload_n 1, 1, 1, 0, .null), (.iaload, 1, 40, 0, .null), (.isub, 1, 0, 0, .null)] 21 (by decide +kernel) ?_
    show isK sh c 4 ∧ (isA sh (c + 4) 10 40 ∧ inb v1 40) ∧ isK sh c 4 ∧ (isA sh (c + 3) 10 40 ∧ inb v1 40) ∧ Fx q_Ro_longOf 2 sh 21 [some (.ref c), some (.int v1)] [.int ((hp.1 (c + 4) (ix v1)) - (hp.1 (c + 3) (ix v1)))] hp (some (.int res)) hp
    refine ⟨hS.1, ⟨hS.2.2.2.2.1, g3⟩, hS.1, ⟨hS.2.2.2.1, g4⟩, ?_⟩
    refine Fx.goto (4) 25 (by decide +kernel) ?_
    obtain rfl := Option.some.inj hf
    have hk : ((hp.1 (c + 4) (ix v1)) - (hp.1 (c + 3) (ix v1))) = res := hk
    subst hk
    exact Fx.iret (by decide +kernel) rfl
abbrev P_Ma_gather_44 (sh : Shp) (c : Nat) (v1 : Nat) (v2 : Int32) (v3 : Int32) (v5 : Nat) (res : HP) : (HP × Int32) → Prop := fun s => Fx q_Ma_gather 5 sh 44 [some (.ref c), some (.ref v1), some (.int v2), some (.int v3), none, some (.ref v5), some (.int s.2)] [] s.1 none res
set_option maxHeartbeats 4000000 in
set_option maxRecDepth 20000 in
theorem t_Ma_gather_l44 (sh : Shp) (c : Nat) (hS : S_Ma sh c) (hp : HP) (v1 : Nat) (hv1 : S_St sh v1) (v2 : Int32) (v3 : Int32) (v5 : Nat) (hv5 : S_Ro sh v5) (res : HP) : ∀ (s : (HP × Int32)) (t : HP), f_Ma_gather_l44 c hp v1 v2 v3 v5 s = some t → (fun v => v = res) t → P_Ma_gather_44 sh c v1 v2 v3 v5 res s := by
  refine loop_ind (P_Ma_gather_44 sh c v1 v2 v3 v5 res) (fun v => v = res) ?_
  intro s t hf hk
  obtain ⟨hp, v6⟩ := s
  replace hf : f_Ma_gather_b44 c hp v1 v2 v3 v5 v6 = some t := hf
  show Fx q_Ma_gather 5 sh 44 [some (.ref c), some (.ref v1), some (.int v2), some (.int v3), none, some (.ref v5), some (.int v6)] [] hp none res
  unfold f_Ma_gather_b44 at hf
  refine Fx.run [(.iload 6, 2, 6, 0, .null), (.aload 5, 2, 5, 0, .null), (.getfield 46, 3, 4, 5, .null)] 51 (by decide +kernel) ?_
  show isK sh v5 4 ∧ Fx q_Ma_gather 5 sh 51 [some (.ref c), some (.ref v1), some (.int v2), some (.int v3), none, some (.ref v5), some (.int v6)] [.int (hp.1 v5 5), .int v6] hp none res
  refine ⟨hv5.1, ?_⟩
  refine Fx.icmp_ge (80) 131 54 (by decide +kernel) (fun b5 => ?_) (fun b5 => ?_)
  · replace hf := ifp b5 hf
    replace hf := mpd hf
    obtain ⟨t, hf, rfl⟩ := hf
    obtain rfl := Option.some.inj hf
    have hk : hp = res := hk
    subst hk
    exact Fx.vret (by decide +kernel) rfl
  · replace hf := ifn b5 hf
    refine Fx.run [(.iload 6, 2, 6, 0, .null), (.bipush 40, 2, 0, 0, .int 40)] 58 (by decide +kernel) ?_
    show Fx q_Ma_gather 5 sh 58 [some (.ref c), some (.ref v1), some (.int v2), some (.int v3), none, some (.ref v5), some (.int v6)] [.int 40, .int v6] hp none res
    refine Fx.icmp_ge (73) 131 61 (by decide +kernel) (fun b6 => ?_) (fun b6 => ?_)
    · replace hf := ifp b6 hf
      replace hf := mpd hf
      obtain ⟨t, hf, rfl⟩ := hf
      obtain rfl := Option.some.inj hf
      have hk : hp = res := hk
      subst hk
      exact Fx.vret (by decide +kernel) rfl
    · replace hf := ifn b6 hf
      refine Fx.run [(.aload_n 1, 1, 1, 0, .null), (.iload_n 2, 1, 2, 0, .null), (.iload_n 3, 1, 3, 0, .null), (.iload 6, 2, 6, 0, .null)] 66 (by decide +kernel) ?_
      show Fx q_Ma_gather 5 sh 66 [some (.ref c), some (.ref v1), some (.int v2), some (.int v3), none, some (.ref v5), some (.int v6)] [.int v6, .int v3, .int v2, .ref v1] hp none res
      replace hf := bnd hf
      obtain ⟨r7, hr7, hf⟩ := hf
      refine Fx.callV (rr := (some (.int r7))) (hp1 := hp) [.int v2, .int v3, .int v6] [] lk_2_47 (by decide +kernel) (t_St_arePartners sh v1 (hv1) hp v2 v3 v6 r7 hr7) ⟨Nat.le_of_ble_eq_true rfl, Nat.le_of_ble_eq_true rfl⟩ (hv1).1 (by decide) rfl (Nat.le_of_ble_eq_true rfl) ?_
      show Fx q_Ma_gather 5 sh 69 [some (.ref c), some (.ref v1), some (.int v2), some (.int v3), none, some (.ref v5), some (.int v6)] [.int r7] hp none res
      refine Fx.if_eq (56) 125 72 (by decide +kernel) (fun b8 => ?_) (fun b8 => ?_)
      · replace hf := ifp b8 hf
        refine Fx.run [(.iinc 6 1, 3, 6, 0, .int 1)] 128 (by decide +kernel) ?_
        show Fx q_Ma_gather 5 sh 128 [some (.ref c), some (.ref v1), some (.int v2), some (.int v3), none, some (.ref v5), some (.int (v6 + 1))] [] hp none res
        refine Fx.goto (-84) 44 (by decide +kernel) ?_
        obtain rfl := Option.some.inj hf
        have hk : Fx q_Ma_gather 5 sh 44 [some (.ref c), some (.ref v1), some (.int v2), some (.int v3), none, some (.ref v5), some (.int (v6 + 1))] [] hp none res := hk
        exact Fx.le hk (And.intro rfl (And.intro rfl (And.intro rfl (And.intro rfl (And.intro rfl (And.intro rfl trivial))))))
      · replace hf := ifn b8 hf
        replace hf := gd hf
        obtain ⟨g9, hf⟩ := hf
        refine Fx.run [(.aload_n 0, 1, 0, 0, .null), (.getfield 9, 3, 2, 0, .ref 1), (.aload_n 0, 1, 0, 0, .null), (.getfield 43, 3, 2, 3, .null), (.iload 6, 2, 6, 0, .null), (.iastore, 1, 40, 0, .null), (.aload_n 0, 1, 0, 0, .null), (.getfield 15, 3, 2, 1, .ref 2), (.aload_n 0, 1, 0, 0, .null), (.getfield 43, 3, 2, 3, .null), (.aload 5, 2, 5, 0, .null), (.iload 6, 2, 6, 0, .null)] 95 (by decide +kernel) ?_
        show isK sh c 2 ∧ isK sh c 2 ∧ (isA sh (c + 1) 10 40 ∧ inb (hp.1 c 3) 40) ∧ isK sh c 2 ∧ isK sh c 2 ∧ Fx q_Ma_gather 5 sh 95 [some (.ref c), some (.ref v1), some (.int v2), some (.int v3), none, some (.ref v5), some (.int v6)] [.int v6, .ref v5, .int ((upI hp (c + 1) (ix (hp.1 c 3)) v6).1 c 3), .ref (c + 2)] (upI hp (c + 1) (ix (hp.1 c 3)) v6) none res
        refine ⟨hS.1, hS.1, ⟨hS.2.1, g9⟩, hS.1, hS.1, ?_⟩
        replace hf := bnd hf
        obtain ⟨r10, hr10, hf⟩ := hf
        refine Fx.callV (rr := (some (.int r10))) (hp1 := (upI hp (c + 1) (ix (hp.1 c 3)) v6)) [.int v6] [.int ((upI hp (c + 1) (ix (hp.1 c 3)) v6).1 c 3), .ref (c + 2)] lk_2_27 (by decide +kernel) (t_Ro_startPlace sh v5 (hv5) (upI hp (c + 1) (ix (hp.1 c 3)) v6) v6 r10 hr10) ⟨Nat.le_of_ble_eq_true rfl, Nat.le_of_ble_eq_true rfl⟩ (hv5).1 (by decide) rfl (Nat.le_of_ble_eq_true rfl) ?_
        show Fx q_Ma_gather 5 sh 98 [some (.ref c), some (.ref v1), some (.int v2), some (.int v3), none, some (.ref v5), some (.int v6)] [.int r10, .int ((upI hp (c + 1) (ix (hp.1 c 3)) v6).1 c 3), .ref (c + 2)] (upI hp (c + 1) (ix (hp.1 c 3)) v6) none res
        replace hf := gd hf
        obtain ⟨g11, hf⟩ := hf
        refine Fx.run [(.iastore, 1, 40, 0, .null), (.aload_n 0, 1, 0, 0, .null), (.getfield 18, 3, 2, 2, .ref 3), (.aload_n 0, 1, 0, 0, .null), (.getfield 43, 3, 2, 3, .null), (.aload 5, 2, 5, 0, .null), (.iload 6, 2, 6, 0, .null)] 111 (by decide +kernel) ?_
        show (isA sh (c + 2) 10 40 ∧ inb ((upI hp (c + 1) (ix (hp.1 c 3)) v6).1 c 3) 40) ∧ isK sh c 2 ∧ isK sh c 2 ∧ Fx q_Ma_gather 5 sh 111 [some (.ref c), some (.ref v1), some (.int v2), some (.int v3), none, some (.ref v5), some (.int v6)] [.int v6, .ref v5, .int ((upI (upI hp (c + 1) (ix (hp.1 c 3)) v6) (c + 2) (ix ((upI hp (c + 1) (ix (hp.1 c 3)) v6).1 c 3)) r10).1 c 3), .ref (c + 3)] (upI (upI hp (c + 1) (ix (hp.1 c 3)) v6) (c + 2) (ix ((upI hp (c + 1) (ix (hp.1 c 3)) v6).1 c 3)) r10) none res
        refine ⟨⟨hS.2.2.1, g11⟩, hS.1, hS.1, ?_⟩
        replace hf := bnd hf
        obtain ⟨r12, hr12, hf⟩ := hf
        refine Fx.callV (rr := (some (.int r12))) (hp1 := (upI (upI hp (c + 1) (ix (hp.1 c 3)) v6) (c + 2) (ix ((upI hp (c + 1) (ix (hp.1 c 3)) v6).1 c 3)) r10)) [.int v6] [.int ((upI (upI hp (c + 1) (ix (hp.1 c 3)) v6) (c + 2) (ix ((upI hp (c + 1) (ix (hp.1 c 3)) v6).1 c 3)) r10).1 c 3), .ref (c + 3)] lk_2_37 (by decide +kernel) (t_Ro_endPlace sh v5 (hv5) (upI (upI hp (c + 1) (ix (hp.1 c 3)) v6) (c + 2) (ix ((upI hp (c + 1) (ix (hp.1 c 3)) v6).1 c 3)) r10) v6 r12 hr12) ⟨Nat.le_of_ble_eq_true rfl, Nat.le_of_ble_eq_true rfl⟩ (hv5).1 (by decide) rfl (Nat.le_of_ble_eq_true rfl) ?_
        show Fx q_Ma_gather 5 sh 114 [some (.ref c), some (.ref v1), some (.int v2), some (.int v3), none, some (.ref v5), some (.int v6)] [.int r12, .int ((upI (upI hp (c + 1) (ix (hp.1 c 3)) v6) (c + 2) (ix ((upI hp (c + 1) (ix (hp.1 c 3)) v6).1 c 3)) r10).1 c 3), .ref (c + 3)] (upI (upI hp (c + 1) (ix (hp.1 c 3)) v6) (c + 2) (ix ((upI hp (c + 1) (ix (hp.1 c 3)) v6).1 c 3)) r10) none res
        replace hf := gd hf
        obtain ⟨g13, hf⟩ := hf
        refine Fx.run [(.iastore, 1, 40, 0, .null), (.aload_n 0, 1, 0, 0, .null), (.dup, 1, 0, 0, .null), (.getfield 43, 3, 2, 3, .null), (.iconst 1, 1, 0, 0, .int 1), (.iadd, 1, 0, 0, .null), (.putfield 43, 3, 2, 3, .null), (.iinc 6 1, 3, 6, 0, .int 1)] 128 (by decide +kernel) ?_
        show (isA sh (c + 3) 10 40 ∧ inb ((upI (upI hp (c + 1) (ix (hp.1 c 3)) v6) (c + 2) (ix ((upI hp (c + 1) (ix (hp.1 c 3)) v6).1 c 3)) r10).1 c 3) 40) ∧ isK sh c 2 ∧ isK sh c 2 ∧ Fx q_Ma_gather 5 sh 128 [some (.ref c), some (.ref v1), some (.int v2), some (.int v3), none, some (.ref v5), some (.int (v6 + 1))] [] (upI (upI (upI (upI hp (c + 1) (ix (hp.1 c 3)) v6) (c + 2) (ix ((upI hp (c + 1) (ix (hp.1 c 3)) v6).1 c 3)) r10) (c + 3) (ix ((upI (upI hp (c + 1) (ix (hp.1 c 3)) v6) (c + 2) (ix ((upI hp (c + 1) (ix (hp.1 c 3)) v6).1 c 3)) r10).1 c 3)) r12) c 3 (((upI (upI (upI hp (c + 1) (ix (hp.1 c 3)) v6) (c + 2) (ix ((upI hp (c + 1) (ix (hp.1 c 3)) v6).1 c 3)) r10) (c + 3) (ix ((upI (upI hp (c + 1) (ix (hp.1 c 3)) v6) (c + 2) (ix ((upI hp (c + 1) (ix (hp.1 c 3)) v6).1 c 3)) r10).1 c 3)) r12).1 c 3) + 1)) none res
        refine ⟨⟨hS.2.2.2, g13⟩, hS.1, hS.1, ?_⟩
        refine Fx.goto (-84) 44 (by decide +kernel) ?_
        obtain rfl := Option.some.inj hf
        have hk : Fx q_Ma_gather 5 sh 44 [some (.ref c), some (.ref v1), some (.int v2), some (.int v3), none, some (.ref v5), some (.int (v6 + 1))] [] (upI (upI (upI (upI hp (c + 1) (ix (hp.1 c 3)) v6) (c + 2) (ix ((upI hp (c + 1) (ix (hp.1 c 3)) v6).1 c 3)) r10) (c + 3) (ix ((upI (upI hp (c + 1) (ix (hp.1 c 3)) v6) (c + 2) (ix ((upI hp (c + 1) (ix (hp.1 c 3)) v6).1 c 3)) r10).1 c 3)) r12) c 3 (((upI (upI (upI hp (c + 1) (ix (hp.1 c 3)) v6) (c + 2) (ix ((upI hp (c + 1) (ix (hp.1 c 3)) v6).1 c 3)) r10) (c + 3) (ix ((upI (upI hp (c + 1) (ix (hp.1 c 3)) v6) (c + 2) (ix ((upI hp (c + 1) (ix (hp.1 c 3)) v6).1 c 3)) r10).1 c 3)) r12).1 c 3) + 1)) none res := hk
        exact Fx.le hk (And.intro rfl (And.intro rfl (And.intro rfl (And.intro rfl (And.intro rfl (And.intro rfl trivial))))))
set_option maxHeartbeats 4000000 in
set_option maxRecDepth 20000 in
theorem t_Ma_gather (sh : Shp) (c : Nat) (hS : S_Ma sh c) (hp : HP) (v1 : Nat) (hv1 : S_St sh v1) (v2 : Int32) (v3 : Int32) (res : HP) (hf : f_Ma_gather c hp v1 v2 v3 = some res) : Ex 5 q_Ma_gather sh [.ref c, .ref v1, .int v2, .int v3] hp none res := by
  refine Ex.of [some (.ref c), some (.ref v1), some (.int v2), some (.int v3), none, none, none] rfl (Nat.le_of_ble_eq_true rfl) (by decide +kernel) rfl ?_
  obtain ⟨t, hk⟩ : ∃ t, t = res := ⟨res, rfl⟩
  rw [← hk] at hf
  unfold f_Ma_gather at hf
  refine Fx.run [(.aload_n 1, 1, 1, 0, .null), (.iload_n 2, 1, 2, 0, .null)] 2 (by decide +kernel) ?_
  show Fx q_Ma_gather 5 sh 2 [some (.ref c), some (.ref v1), some (.int v2), some (.int v3), none, none, none] [.int v2, .ref v1] hp none res
  replace hf := bnd hf
  obtain ⟨r1, hr1, hf⟩ := hf
  refine Fx.callV (rr := (some (.ref r1))) (hp1 := hp) [.int v2] [] lk_2_21 (by decide +kernel) (t_St_rowsOf sh v1 (hv1) hp v2 r1 hr1) ⟨Nat.le_of_ble_eq_true rfl, Nat.le_of_ble_eq_true rfl⟩ (hv1).1 (by decide) rfl (Nat.le_of_ble_eq_true rfl) ?_
  show Fx q_Ma_gather 5 sh 5 [some (.ref c), some (.ref v1), some (.int v2), some (.int v3), none, none, none] [.ref r1] hp none res
  refine Fx.run [(.astore 4, 2, 4, 0, .null), (.aload_n 1, 1, 1, 0, .null), (.iconst 1, 1, 0, 0, .int 1), (.iload_n 2, 1, 2, 0, .null), (.isub, 1, 0, 0, .null)] 11 (by decide +kernel) ?_
  show Fx q_Ma_gather 5 sh 11 [some (.ref c), some (.ref v1), some (.int v2), some (.int v3), some (.ref r1), none, none] [.int (1 - v2), .ref v1] hp none res
  replace hf := bnd hf
  obtain ⟨r2, hr2, hf⟩ := hf
  refine Fx.callV (rr := (some (.ref r2))) (hp1 := hp) [.int (1 - v2)] [] lk_2_21 (by decide +kernel) (t_St_rowsOf sh v1 (hv1) hp (1 - v2) r2 hr2) ⟨Nat.le_of_ble_eq_true rfl, Nat.le_of_ble_eq_true rfl⟩ (hv1).1 (by decide) rfl (Nat.le_of_ble_eq_true rfl) ?_
  show Fx q_Ma_gather 5 sh 14 [some (.ref c), some (.ref v1), some (.int v2), some (.int v3), some (.ref r1), none, none] [.ref r2] hp none res
  refine Fx.run [(.astore 5, 2, 5, 0, .null), (.aload_n 0, 1, 0, 0, .null), (.aload 4, 2, 4, 0, .null), (.iload_n 3, 1, 3, 0, .null)] 20 (by decide +kernel) ?_
  show Fx q_Ma_gather 5 sh 20 [some (.ref c), some (.ref v1), some (.int v2), some (.int v3), some (.ref r1), some (.ref r2), none] [.int v3, .ref r1, .ref c] hp none res
  replace hf := bnd hf
  obtain ⟨r3, hr3, hf⟩ := hf
  refine Fx.callV (rr := (some (.int r3))) (hp1 := hp) [.int v3] [.ref c] lk_2_27 (by decide +kernel) (t_Ro_startPlace sh r1 ((rowsOf_S hv1 hr1)) hp v3 r3 hr3) ⟨Nat.le_of_ble_eq_true rfl, Nat.le_of_ble_eq_true rfl⟩ ((rowsOf_S hv1 hr1)).1 (by decide) rfl (Nat.le_of_ble_eq_true rfl) ?_
  show Fx q_Ma_gather 5 sh 23 [some (.ref c), some (.ref v1), some (.int v2), some (.int v3), some (.ref r1), some (.ref r2), none] [.int r3, .ref c] hp none res
  refine Fx.run [(.putfield 33, 3, 2, 4, .null), (.aload_n 0, 1, 0, 0, .null), (.aload 4, 2, 4, 0, .null), (.iload_n 3, 1, 3, 0, .null)] 30 (by decide +kernel) ?_
  show isK sh c 2 ∧ Fx q_Ma_gather 5 sh 30 [some (.ref c), some (.ref v1), some (.int v2), some (.int v3), some (.ref r1), some (.ref r2), none] [.int v3, .ref r1, .ref c] (upI hp c 4 r3) none res
  refine ⟨hS.1, ?_⟩
  replace hf := bnd hf
  obtain ⟨r4, hr4, hf⟩ := hf
  refine Fx.callV (rr := (some (.int r4))) (hp1 := (upI hp c 4 r3)) [.int v3] [.ref c] lk_2_37 (by decide +kernel) (t_Ro_endPlace sh r1 ((rowsOf_S hv1 hr1)) (upI hp c 4 r3) v3 r4 hr4) ⟨Nat.le_of_ble_eq_true rfl, Nat.le_of_ble_eq_true rfl⟩ ((rowsOf_S hv1 hr1)).1 (by decide) rfl (Nat.le_of_ble_eq_true rfl) ?_
  show Fx q_Ma_gather 5 sh 33 [some (.ref c), some (.ref v1), some (.int v2), some (.int v3), some (.ref r1), some (.ref r2), none] [.int r4, .ref c] (upI hp c 4 r3) none res
  refine Fx.run [(.putfield 40, 3, 2, 5, .null), (.aload_n 0, 1, 0, 0, .null), (.iconst 0, 1, 0, 0, .int 0), (.putfield 43, 3, 2, 3, .null), (.iconst 0, 1, 0, 0, .int 0), (.istore 6, 2, 6, 0, .null)] 44 (by decide +kernel) ?_
  show isK sh c 2 ∧ isK sh c 2 ∧ Fx q_Ma_gather 5 sh 44 [some (.ref c), some (.ref v1), some (.int v2), some (.int v3), some (.ref r1), some (.ref r2), some (.int 0)] [] (upI (upI (upI hp c 4 r3) c 5 r4) c 3 0) none res
  refine ⟨hS.1, hS.1, ?_⟩
  have hl := t_Ma_gather_l44 sh c hS (upI (upI (upI hp c 4 r3) c 5 r4) c 3 0) v1 (hv1) v2 v3 r2 ((rowsOf_S hv1 hr2)) res ((upI (upI (upI hp c 4 r3) c 5 r4) c 3 0), 0) _ hf hk
  have hl : Fx q_Ma_gather 5 sh 44 [some (.ref c), some (.ref v1), some (.int v2), some (.int v3), none, some (.ref r2), some (.int 0)] [] (upI (upI (upI hp c 4 r3) c 5 r4) c 3 0) none res := hl
  exact Fx.le hl (And.intro rfl (And.intro rfl (And.intro rfl (And.intro rfl (And.intro rfl (And.intro rfl trivial))))))
abbrev P_Ma_countAt_4 (sh : Shp) (c : Nat) (hp : HP) (v1 : Int32) (res : Int32) : (Int32 × Int32) → Prop := fun s => Fx q_Ma_countAt 1 sh 4 [some (.ref c), some (.int v1), some (.int s.1), some (.int s.2)] [] hp (some (.int res)) hp
set_option maxHeartbeats 4000000 in
set_option maxRecDepth 20000 in
theorem t_Ma_countAt_l4 (sh : Shp) (c : Nat) (hS : S_Ma sh c) (hp : HP) (v1 : Int32) (res : Int32) : ∀ (s : (Int32 × Int32)) (t : Int32), f_Ma_countAt_l4 c hp v1 s = some t → (fun v => v = res) t → P_Ma_countAt_4 sh c hp v1 res s := by
  refine loop_ind (P_Ma_countAt_4 sh c hp v1 res) (fun v => v = res) ?_
  intro s t hf hk
  obtain ⟨v2, v3⟩ := s
  replace hf : f_Ma_countAt_b4 c hp v1 v2 v3 = some t := hf
  show Fx q_Ma_countAt 1 sh 4 [some (.ref c), some (.int v1), some (.int v2), some (.int v3)] [] hp (some (.int res)) hp
  unfold f_Ma_countAt_b4 at hf
  refine Fx.run [(.iload_n 3, 1, 3, 0, .null), (.aload_n 0, 1, 0, 0, .null), (.getfield 43, 3, 2, 3, .null)] 9 (by decide +kernel) ?_
  show isK sh c 2 ∧ Fx q_Ma_countAt 1 sh 9 [some (.ref c), some (.int v1), some (.int v2), some (.int v3)] [.int (hp.1 c 3), .int v3] hp (some (.int res)) hp
  refine ⟨hS.1, ?_⟩
  refine Fx.icmp_ge (32) 41 12 (by decide +kernel) (fun b1 => ?_) (fun b1 => ?_)
  · replace hf := ifp b1 hf
    replace hf := mpd hf
    obtain ⟨t, hf, rfl⟩ := hf
    refine Fx.run [(.iload_n 2, 1, 2, 0, .null)] 42 (by decide +kernel) ?_
    show Fx q_Ma_countAt 1 sh 42 [some (.ref c), some (.int v1), some (.int v2), some (.int v3)] [.int v2] hp (some (.int res)) hp
    obtain rfl := Option.some.inj hf
    have hk : v2 = res := hk
    subst hk
    exact Fx.iret (by decide +kernel) rfl
  · replace hf := ifn b1 hf
    replace hf := gd hf
    obtain ⟨g2, hf⟩ := hf
    refine Fx.run [(.aload_n 0, 1, 0, 0, .null), (.getfield 15, 3, 2, 1, .ref 2), (.iload_n 3, 1, 3, 0, .null), (.iaload, 1, 40, 0, .null), (.iload_n 1, 1, 1, 0, .null)] 19 (by decide +kernel) ?_
    show isK sh c 2 ∧ (isA sh (c + 2) 10 40 ∧ inb v3 40) ∧ Fx q_Ma_countAt 1 sh 19 [some (.ref c), some (.int v1), some (.int v2), some (.int v3)] [.int v1, .int (hp.1 (c + 2) (ix v3))] hp (some (.int res)) hp
    refine ⟨hS.1, ⟨hS.2.2.1, g2⟩, ?_⟩
    refine Fx.icmp_gt (16) 35 22 (by decide +kernel) (fun b3 => ?_) (fun b3 => ?_)
    · replace hf := ifp b3 hf
      refine Fx.run [(.iinc 3 1, 3, 3, 0, .int 1)] 38 (by decide +kernel) ?_
      show Fx q_Ma_countAt 1 sh 38 [some (.ref c), some (.int v1), some (.int v2), some (.int (v3 + 1))] [] hp (some (.int res)) hp
      refine Fx.goto (-34) 4 (by decide +kernel) ?_
      obtain rfl := Option.some.inj hf
      have hk : Fx q_Ma_countAt 1 sh 4 [some (.ref c), some (.int v1), some (.int v2), some (.int (v3 + 1))] [] hp (some (.int res)) hp := hk
      exact Fx.le hk (And.intro rfl (And.intro rfl (And.intro rfl (And.intro rfl trivial))))
    · replace hf := ifn b3 hf
      replace hf := gd hf
      obtain ⟨g4, hf⟩ := hf
      refine Fx.run [(.iload_n 1, 1, 1, 0, .null), (.aload_n 0, 1, 0, 0, .null), (.getfield 18, 3, 2, 2, .ref 3), (.iload_n 3, 1, 3, 0, .null), (.iaload, 1, 40, 0, .null)] 29 (by decide +kernel) ?_
      show isK sh c 2 ∧ (isA sh (c + 3) 10 40 ∧ inb v3 40) ∧ Fx q_Ma_countAt 1 sh 29 [some (.ref c), some (.int v1), some (.int v2), some (.int v3)] [.int (hp.1 (c + 3) (ix v3)), .int v1] hp (some (.int res)) hp
      refine ⟨hS.1, ⟨hS.2.2.2, g4⟩, ?_⟩
      refine Fx.icmp_ge (6) 35 32 (by decide +kernel) (fun b5 => ?_) (fun b5 => ?_)
      · replace hf := ifp b5 hf
        refine Fx.run [(.iinc 3 1, 3, 3, 0, .int 1)] 38 (by decide +kernel) ?_
        show Fx q_Ma_countAt 1 sh 38 [some (.ref c), some (.int v1), some (.int v2), some (.int (v3 + 1))] [] hp (some (.int res)) hp
        refine Fx.goto (-34) 4 (by decide +kernel) ?_
        obtain rfl := Option.some.inj hf
        have hk : Fx q_Ma_countAt 1 sh 4 [some (.ref c), some (.int v1), some (.int v2), some (.int (v3 + 1))] [] hp (some (.int res)) hp := hk
        exact Fx.le hk (And.intro rfl (And.intro rfl (And.intro rfl (And.intro rfl trivial))))
      · replace hf := ifn b5 hf
        refine Fx.run [(.iinc 2 1, 3, 2, 0, .int 1), (.iinc 3 1, 3, 3, 0, .int 1)] 38 (by decide +kernel) ?_
        show Fx q_Ma_countAt 1 sh 38 [some (.ref c), some (.int v1), some (.int (v2 + 1)), some (.int (v3 + 1))] [] hp (some (.int res)) hp
        refine Fx.goto (-34) 4 (by decide +kernel) ?_
        obtain rfl := Option.some.inj hf
        have hk : Fx q_Ma_countAt 1 sh 4 [some (.ref c), some (.int v1), some (.int (v2 + 1)), some (.int (v3 + 1))] [] hp (some (.int res)) hp := hk
        exact Fx.le hk (And.intro rfl (And.intro rfl (And.intro rfl (And.intro rfl trivial))))
set_option maxHeartbeats 4000000 in
set_option maxRecDepth 20000 in
theorem t_Ma_countAt (sh : Shp) (c : Nat) (hS : S_Ma sh c) (hp : HP) (v1 : Int32) (res : Int32) (hf : f_Ma_countAt c hp v1 = some res) : Ex 1 q_Ma_countAt sh [.ref c, .int v1] hp (some (.int res)) hp := by
  refine Ex.of [some (.ref c), some (.int v1), none, none] rfl (Nat.le_of_ble_eq_true rfl) (by decide +kernel) rfl ?_
  obtain ⟨t, hk⟩ : ∃ t, t = res := ⟨res, rfl⟩
  rw [← hk] at hf
  unfold f_Ma_countAt at hf
  refine Fx.run [(.iconst 0, 1, 0, 0, .int 0), (.istore_n 2, 1, 2, 0, .null), (.iconst 0, 1, 0, 0, .int 0), (.istore_n 3, 1, 3, 0, .null)] 4 (by decide +kernel) ?_
  show Fx q_Ma_countAt 1 sh 4 [some (.ref c), some (.int v1), some (.int 0), some (.int 0)] [] hp (some (.int res)) hp
  have hl := t_Ma_countAt_l4 sh c hS hp v1 res (0, 0) _ hf hk
  have hl : Fx q_Ma_countAt 1 sh 4 [some (.ref c), some (.int v1), some (.int 0), some (.int 0)] [] hp (some (.int res)) hp := hl
  exact Fx.le hl (And.intro rfl (And.intro rfl (And.intro rfl (And.intro rfl trivial))))
abbrev P_Ma_depth_11 (sh : Shp) (c : Nat) (hp : HP)  (res : Int32) : (Int32 × Int32) → Prop := fun s => Fx q_Ma_depth 2 sh 11 [some (.ref c), some (.int s.1), some (.int s.2)] [] hp (some (.int res)) hp
set_option maxHeartbeats 4000000 in
set_option maxRecDepth 20000 in
theorem t_Ma_depth_l11 (sh : Shp) (c : Nat) (hS : S_Ma sh c) (hp : HP)  (res : Int32) : ∀ (s : (Int32 × Int32)) (t : Int32), f_Ma_depth_l11 c hp  s = some t → (fun v => v = res) t → P_Ma_depth_11 sh c hp  res s := by
  refine loop_ind (P_Ma_depth_11 sh c hp  res) (fun v => v = res) ?_
  intro s t hf hk
  obtain ⟨v1, v2⟩ := s
  replace hf : f_Ma_depth_b11 c hp  v1 v2 = some t := hf
  show Fx q_Ma_depth 2 sh 11 [some (.ref c), some (.int v1), some (.int v2)] [] hp (some (.int res)) hp
  unfold f_Ma_depth_b11 at hf
  refine Fx.run [(.iload_n 2, 1, 2, 0, .null), (.aload_n 0, 1, 0, 0, .null), (.getfield 43, 3, 2, 3, .null)] 16 (by decide +kernel) ?_
  show isK sh c 2 ∧ Fx q_Ma_depth 2 sh 16 [some (.ref c), some (.int v1), some (.int v2)] [.int (hp.1 c 3), .int v2] hp (some (.int res)) hp
  refine ⟨hS.1, ?_⟩
  refine Fx.icmp_ge (37) 53 19 (by decide +kernel) (fun b2 => ?_) (fun b2 => ?_)
  · replace hf := ifp b2 hf
    replace hf := mpd hf
    obtain ⟨t, hf, rfl⟩ := hf
    refine Fx.run [(.iload_n 1, 1, 1, 0, .null)] 54 (by decide +kernel) ?_
    show Fx q_Ma_depth 2 sh 54 [some (.ref c), some (.int v1), some (.int v2)] [.int v1] hp (some (.int res)) hp
    obtain rfl := Option.some.inj hf
    have hk : v1 = res := hk
    subst hk
    exact Fx.iret (by decide +kernel) rfl
  · replace hf := ifn b2 hf
    replace hf := gd hf
    obtain ⟨g3, hf⟩ := hf
    refine Fx.run [(.aload_n 0, 1, 0, 0, .null), (.getfield 15, 3, 2, 1, .ref 2), (.iload_n 2, 1, 2, 0, .null), (.iaload, 1, 40, 0, .null), (.aload_n 0, 1, 0, 0, .null), (.getfield 33, 3, 2, 4, .null)] 29 (by decide +kernel) ?_
    show isK sh c 2 ∧ (isA sh (c + 2) 10 40 ∧ inb v2 40) ∧ isK sh c 2 ∧ Fx q_Ma_depth 2 sh 29 [some (.ref c), some (.int v1), some (.int v2)] [.int (hp.1 c 4), .int (hp.1 (c + 2) (ix v2))] hp (some (.int res)) hp
    refine ⟨hS.1, ⟨hS.2.2.1, g3⟩, hS.1, ?_⟩
    refine Fx.icmp_le (18) 47 32 (by decide +kernel) (fun b4 => ?_) (fun b4 => ?_)
    · replace hf := ifp b4 hf
      refine Fx.run [(.iinc 2 1, 3, 2, 0, .int 1)] 50 (by decide +kernel) ?_
      show Fx q_Ma_depth 2 sh 50 [some (.ref c), some (.int v1), some (.int (v2 + 1))] [] hp (some (.int res)) hp
      refine Fx.goto (-39) 11 (by decide +kernel) ?_
      obtain rfl := Option.some.inj hf
      have hk : Fx q_Ma_depth 2 sh 11 [some (.ref c), some (.int v1), some (.int (v2 + 1))] [] hp (some (.int res)) hp := hk
      exact Fx.le hk (And.intro rfl (And.intro rfl (And.intro rfl trivial)))
    · replace hf := ifn b4 hf
      replace hf := gd hf
      obtain ⟨g5, hf⟩ := hf
      refine Fx.run [(.iload_n 1, 1, 1, 0, .null), (.aload_n 0, 1, 0, 0, .null), (.aload_n 0, 1, 0, 0, .null), (.getfield 15, 3, 2, 1, .ref 2), (.iload_n 2, 1, 2, 0, .null), (.iaload, 1, 40, 0, .null)] 40 (by decide +kernel) ?_
      show isK sh c 2 ∧ (isA sh (c + 2) 10 40 ∧ inb v2 40) ∧ Fx q_Ma_depth 2 sh 40 [some (.ref c), some (.int v1), some (.int v2)] [.int (hp.1 (c + 2) (ix v2)), .ref c, .int v1] hp (some (.int res)) hp
      refine ⟨hS.1, ⟨hS.2.2.1, g5⟩, ?_⟩
      replace hf := bnd hf
      obtain ⟨r6, hr6, hf⟩ := hf
      refine Fx.callV (rr := (some (.int r6))) (hp1 := hp) [.int (hp.1 (c + 2) (ix v2))] [.int v1] lk_2_51 (by decide +kernel) (t_Ma_countAt sh c (hS) hp (hp.1 (c + 2) (ix v2)) r6 hr6) ⟨Nat.le_of_ble_eq_true rfl, Nat.le_of_ble_eq_true rfl⟩ (hS).1 (by decide) rfl (Nat.le_of_ble_eq_true rfl) ?_
      show Fx q_Ma_depth 2 sh 43 [some (.ref c), some (.int v1), some (.int v2)] [.int r6, .int v1] hp (some (.int res)) hp
      refine Fx.mmax lk_2_54 (by decide +kernel) (by decide) (Nat.le_of_ble_eq_true rfl) ?_
      show Fx q_Ma_depth 2 sh 46 [some (.ref c), some (.int v1), some (.int v2)] [.int (if v1 < r6 then r6 else v1)] hp (some (.int res)) hp
      refine Fx.run [(.istore_n 1, 1, 1, 0, .null), (.iinc 2 1, 3, 2, 0, .int 1)] 50 (by decide +kernel) ?_
      show Fx q_Ma_depth 2 sh 50 [some (.ref c), some (.int (if v1 < r6 then r6 else v1)), some (.int (v2 + 1))] [] hp (some (.int res)) hp
      refine Fx.goto (-39) 11 (by decide +kernel) ?_
      obtain rfl := Option.some.inj hf
      have hk : Fx q_Ma_depth 2 sh 11 [some (.ref c), some (.int (if v1 < r6 then r6 else v1)), some (.int (v2 + 1))] [] hp (some (.int res)) hp := hk
      exact Fx.le hk (And.intro rfl (And.intro rfl (And.intro rfl trivial)))
set_option maxHeartbeats 4000000 in
set_option maxRecDepth 20000 in
theorem t_Ma_depth (sh : Shp) (c : Nat) (hS : S_Ma sh c) (hp : HP)  (res : Int32) (hf : f_Ma_depth c hp  = some res) : Ex 2 q_Ma_depth sh [.ref c] hp (some (.int res)) hp := by
  refine Ex.of [some (.ref c), none, none] rfl (Nat.le_of_ble_eq_true rfl) (by decide +kernel) rfl ?_
  obtain ⟨t, hk⟩ : ∃ t, t = res := ⟨res, rfl⟩
  rw [← hk] at hf
  unfold f_Ma_depth at hf
  refine Fx.run [(.aload_n 0, 1, 0, 0, .null), (.aload_n 0, 1, 0, 0, .null), (.getfield 33, 3, 2, 4, .null)] 5 (by decide +kernel) ?_
  show isK sh c 2 ∧ Fx q_Ma_depth 2 sh 5 [some (.ref c), none, none] [.int (hp.1 c 4), .ref c] hp (some (.int res)) hp
  refine ⟨hS.1, ?_⟩
  replace hf := bnd hf
  obtain ⟨r1, hr1, hf⟩ := hf
  refine Fx.callV (rr := (some (.int r1))) (hp1 := hp) [.int (hp.1 c 4)] [] lk_2_51 (by decide +kernel) (t_Ma_countAt sh c (hS) hp (hp.1 c 4) r1 hr1) ⟨Nat.le_of_ble_eq_true rfl, Nat.le_of_ble_eq_true rfl⟩ (hS).1 (by decide) rfl (Nat.le_of_ble_eq_true rfl) ?_
  show Fx q_Ma_depth 2 sh 8 [some (.ref c), none, none] [.int r1] hp (some (.int res)) hp
  refine Fx.run [(.istore_n 1, 1, 1, 0, .null), (.iconst 0, 1, 0, 0, .int 0), (.istore_n 2, 1, 2, 0, .null)] 11 (by decide +kernel) ?_
  show Fx q_Ma_depth 2 sh 11 [some (.ref c), some (.int r1), some (.int 0)] [] hp (some (.int res)) hp
  have hl := t_Ma_depth_l11 sh c hS hp  res (r1, 0) _ hf hk
  have hl : Fx q_Ma_depth 2 sh 11 [some (.ref c), some (.int r1), some (.int 0)] [] hp (some (.int res)) hp := hl
  exact Fx.le hl (And.intro rfl (And.intro rfl (And.intro rfl trivial)))
set_option maxHeartbeats 4000000 in
set_option maxRecDepth 20000 in
theorem t_Pa_empty (sh : Shp) (c : Nat) (hS : S_Pa sh c) (hp : HP)  (res : HP) (hf : f_Pa_empty c hp  = some res) : Ex 1 q_Pa_empty sh [.ref c] hp none res := by
  refine Ex.of [some (.ref c)] rfl (Nat.le_of_ble_eq_true rfl) (by decide +kernel) rfl ?_
  obtain ⟨t, hk⟩ : ∃ t, t = res := ⟨res, rfl⟩
  rw [← hk] at hf
  unfold f_Pa_empty at hf
  refine Fx.run [(.aload_n 0, 1, 0, 0, .null), (.iconst 0, 1, 0, 0, .int 0), (.putfield 18, 3, 3, 2, .null)] 5 (by decide +kernel) ?_
  show isK sh c 3 ∧ Fx q_Pa_empty 1 sh 5 [some (.ref c)] [] (upI hp c 2 0) none res
  refine ⟨hS.1, ?_⟩
  obtain rfl := Option.some.inj hf
  have hk : (upI hp c 2 0) = res := hk
  subst hk
  exact Fx.vret (by decide +kernel) rfl
abbrev P_Ma_longestAt_4 (sh : Shp) (c : Nat) (hp : HP) (v1 : Int32) (res : Int32) : (Int32 × Int32) → Prop := fun s => Fx q_Ma_longestAt 1 sh 4 [some (.ref c), some (.int v1), some (.int s.1), some (.int s.2), none] [] hp (some (.int res)) hp
set_option maxHeartbeats 4000000 in
set_option maxRecDepth 20000 in
theorem t_Ma_longestAt_j37 (sh : Shp) (c : Nat) (hS : S_Ma sh c) (hp : HP) (v1 : Int32) (v2 : Int32) (v3 : Int32) (s0 : Int32) (res : Int32) (t : ((Int32 × Int32) ⊕ Int32)) (hf : f_Ma_longestAt_j37 c hp v1 v2 v3 s0 = some t) (hk : (Kel (P_Ma_longestAt_4 sh c hp v1 res) (fun v => v = res)) t) : Fx q_Ma_longestAt 1 sh 37 [some (.ref c), some (.int v1), some (.int v2), some (.int v3), none] [.int s0] hp (some (.int res)) hp := by
  unfold f_Ma_longestAt_j37 at hf
  refine Fx.run [(.istore 4, 2, 4, 0, .null), (.iload 4, 2, 4, 0, .null)] 41 (by decide +kernel) ?_
  show Fx q_Ma_longestAt 1 sh 41 [some (.ref c), some (.int v1), some (.int v2), some (.int v3), some (.int s0)] [.int s0] hp (some (.int res)) hp
  refine Fx.if_eq (25) 66 44 (by decide +kernel) (fun b4 => ?_) (fun b4 => ?_)
  · replace hf := ifp b4 hf
    refine Fx.run [(.iinc 3 1, 3, 3, 0, .int 1)] 69 (by decide +kernel) ?_
    show Fx q_Ma_longestAt 1 sh 69 [some (.ref c), some (.int v1), some (.int v2), some (.int (v3 + 1)), some (.int s0)] [] hp (some (.int res)) hp
    refine Fx.goto (-65) 4 (by decide +kernel) ?_
    obtain rfl := Option.some.inj hf
    have hk : Fx q_Ma_longestAt 1 sh 4 [some (.ref c), some (.int v1), some (.int v2), some (.int (v3 + 1)), none] [] hp (some (.int res)) hp := hk
    exact Fx.le hk (And.intro rfl (And.intro rfl (And.intro rfl (And.intro rfl trivial))))
  · replace hf := ifn b4 hf
    refine Fx.run [(.iload_n 2, 1, 2, 0, .null), (.iconst (-1), 1, 0, 0, .int (-1))] 46 (by decide +kernel) ?_
    show Fx q_Ma_longestAt 1 sh 46 [some (.ref c), some (.int v1), some (.int v2), some (.int v3), some (.int s0)] [.int (-1), .int v2] hp (some (.int res)) hp
    refine Fx.icmp_eq (18) 64 49 (by decide +kernel) (fun b5 => ?_) (fun b5 => ?_)
    · replace hf := ifp b5 hf
      refine Fx.run [(.iload_n 3, 1, 3, 0, .null), (.istore_n 2, 1, 2, 0, .null), (.iinc 3 1, 3, 3, 0, .int 1)] 69 (by decide +kernel) ?_
      show Fx q_Ma_longestAt 1 sh 69 [some (.ref c), some (.int v1), some (.int v3), some (.int (v3 + 1)), some (.int s0)] [] hp (some (.int res)) hp
      refine Fx.goto (-65) 4 (by decide +kernel) ?_
      obtain rfl := Option.some.inj hf
      have hk : Fx q_Ma_longestAt 1 sh 4 [some (.ref c), some (.int v1), some (.int v3), some (.int (v3 + 1)), none] [] hp (some (.int res)) hp := hk
      exact Fx.le hk (And.intro rfl (And.intro rfl (And.intro rfl (And.intro rfl trivial))))
    · replace hf := ifn b5 hf
      replace hf := gd hf
      obtain ⟨g6, hf⟩ := hf
      replace hf := gd hf
      obtain ⟨g7, hf⟩ := hf
      refine Fx.run [(.aload_n 0, 1, 0, 0, .null), (.getfield 18, 3, 2, 2, .ref 3), (.iload_n 3, 1, 3, 0, .null), (.iaload, 1, 40, 0, .null), (.aload_n 0, 1, 0, 0, .null), (.getfield 18, 3, 2, 2, .ref 3), (.iload_n 2, 1, 2, 0, .null), (.iaload, 1, 40, 0, .null)] 61 (by decide +kernel) ?_
      show isK sh c 2 ∧ (isA sh (c + 3) 10 40 ∧ inb v3 40) ∧ isK sh c 2 ∧ (isA sh (c + 3) 10 40 ∧ inb v2 40) ∧ Fx q_Ma_longestAt 1 sh 61 [some (.ref c), some (.int v1), some (.int v2), some (.int v3), some (.int s0)] [.int (hp.1 (c + 3) (ix v2)), .int (hp.1 (c + 3) (ix v3))] hp (some (.int res)) hp
      refine ⟨hS.1, ⟨hS.2.2.2, g6⟩, hS.1, ⟨hS.2.2.2, g7⟩, ?_⟩
      refine Fx.icmp_le (5) 66 64 (by decide +kernel) (fun b8 => ?_) (fun b8 => ?_)
      · replace hf := ifp b8 hf
        refine Fx.run [(.iinc 3 1, 3, 3, 0, .int 1)] 69 (by decide +kernel) ?_
        show Fx q_Ma_longestAt 1 sh 69 [some (.ref c), some (.int v1), some (.int v2), some (.int (v3 + 1)), some (.int s0)] [] hp (some (.int res)) hp
        refine Fx.goto (-65) 4 (by decide +kernel) ?_
        obtain rfl := Option.some.inj hf
        have hk : Fx q_Ma_longestAt 1 sh 4 [some (.ref c), some (.int v1), some (.int v2), some (.int (v3 + 1)), none] [] hp (some (.int res)) hp := hk
        exact Fx.le hk (And.intro rfl (And.intro rfl (And.intro rfl (And.intro rfl trivial))))
      · replace hf := ifn b8 hf
        refine Fx.run [(.iload_n 3, 1, 3, 0, .null), (.istore_n 2, 1, 2, 0, .null), (.iinc 3 1, 3, 3, 0, .int 1)] 69 (by decide +kernel) ?_
        show Fx q_Ma_longestAt 1 sh 69 [some (.ref c), some (.int v1), some (.int v3), some (.int (v3 + 1)), some (.int s0)] [] hp (some (.int res)) hp
        refine Fx.goto (-65) 4 (by decide +kernel) ?_
        obtain rfl := Option.some.inj hf
        have hk : Fx q_Ma_longestAt 1 sh 4 [some (.ref c), some (.int v1), some (.int v3), some (.int (v3 + 1)), none] [] hp (some (.int res)) hp := hk
        exact Fx.le hk (And.intro rfl (And.intro rfl (And.intro rfl (And.intro rfl trivial))))
set_option maxHeartbeats 4000000 in
set_option maxRecDepth 20000 in
theorem t_Ma_longestAt_l4 (sh : Shp) (c : Nat) (hS : S_Ma sh c) (hp : HP) (v1 : Int32) (res : Int32) : ∀ (s : (Int32 × Int32)) (t : Int32), f_Ma_longestAt_l4 c hp v1 s = some t → (fun v => v = res) t → P_Ma_longestAt_4 sh c hp v1 res s := by
  refine loop_ind (P_Ma_longestAt_4 sh c hp v1 res) (fun v => v = res) ?_
  intro s t hf hk
  obtain ⟨v2, v3⟩ := s
  replace hf : f_Ma_longestAt_b4 c hp v1 v2 v3 = some t := hf
  show Fx q_Ma_longestAt 1 sh 4 [some (.ref c), some (.int v1), some (.int v2), some (.int v3), none] [] hp (some (.int res)) hp
  unfold f_Ma_longestAt_b4 at hf
  refine Fx.run [(.iload_n 3, 1, 3, 0, .null), (.aload_n 0, 1, 0, 0, .null), (.getfield 43, 3, 2, 3, .null)] 9 (by decide +kernel) ?_
  show isK sh c 2 ∧ Fx q_Ma_longestAt 1 sh 9 [some (.ref c), some (.int v1), some (.int v2), some (.int v3), none] [.int (hp.1 c 3), .int v3] hp (some (.int res)) hp
  refine ⟨hS.1, ?_⟩
  refine Fx.icmp_ge (63) 72 12 (by decide +kernel) (fun b1 => ?_) (fun b1 => ?_)
  · replace hf := ifp b1 hf
    replace hf := mpd hf
    obtain ⟨t, hf, rfl⟩ := hf
    refine Fx.run [(.iload_n 2, 1, 2, 0, .null)] 73 (by decide +kernel) ?_
    show Fx q_Ma_longestAt 1 sh 73 [some (.ref c), some (.int v1), some (.int v2), some (.int v3), none] [.int v2] hp (some (.int res)) hp
    obtain rfl := Option.some.inj hf
    have hk : v2 = res := hk
    subst hk
    exact Fx.iret (by decide +kernel) rfl
  · replace hf := ifn b1 hf
    replace hf := gd hf
    obtain ⟨g2, hf⟩ := hf
    refine Fx.run [(.aload_n 0, 1, 0, 0, .null), (.getfield 15, 3, 2, 1, .ref 2), (.iload_n 3, 1, 3, 0, .null), (.iaload, 1, 40, 0, .null), (.iload_n 1, 1, 1, 0, .null)] 19 (by decide +kernel) ?_
    show isK sh c 2 ∧ (isA sh (c + 2) 10 40 ∧ inb v3 40) ∧ Fx q_Ma_longestAt 1 sh 19 [some (.ref c), some (.int v1), some (.int v2), some (.int v3), none] [.int v1, .int (hp.1 (c + 2) (ix v3))] hp (some (.int res)) hp
    refine ⟨hS.1, ⟨hS.2.2.1, g2⟩, ?_⟩
    refine Fx.icmp_gt (17) 36 22 (by decide +kernel) (fun b3 => ?_) (fun b3 => ?_)
    · replace hf := ifp b3 hf
      refine Fx.run [(.iconst 0, 1, 0, 0, .int 0)] 37 (by decide +kernel) ?_
      show Fx q_Ma_longestAt 1 sh 37 [some (.ref c), some (.int v1), some (.int v2), some (.int v3), none] [.int 0] hp (some (.int res)) hp
      have hl := t_Ma_longestAt_j37 sh c hS hp v1 v2 v3 0 res _ hf hk
      exact Fx.le hl (And.intro rfl (And.intro rfl (And.intro rfl (And.intro rfl trivial))))
    · replace hf := ifn b3 hf
      replace hf := gd hf
      obtain ⟨g9, hf⟩ := hf
      refine Fx.run [(.iload_n 1, 1, 1, 0, .null), (.aload_n 0, 1, 0, 0, .null), (.getfield 18, 3, 2, 2, .ref 3), (.iload_n 3, 1, 3, 0, .null), (.iaload, 1, 40, 0, .null)] 29 (by decide +kernel) ?_
      show isK sh c 2 ∧ (isA sh (c + 3) 10 40 ∧ inb v3 40) ∧ Fx q_Ma_longestAt 1 sh 29 [some (.ref c), some (.int v1), some (.int v2), some (.int v3), none] [.int (hp.1 (c + 3) (ix v3)), .int v1] hp (some (.int res)) hp
      refine ⟨hS.1, ⟨hS.2.2.2, g9⟩, ?_⟩
      refine Fx.icmp_ge (7) 36 32 (by decide +kernel) (fun b10 => ?_) (fun b10 => ?_)
      · replace hf := ifp b10 hf
        refine Fx.run [(.iconst 0, 1, 0, 0, .int 0)] 37 (by decide +kernel) ?_
        show Fx q_Ma_longestAt 1 sh 37 [some (.ref c), some (.int v1), some (.int v2), some (.int v3), none] [.int 0] hp (some (.int res)) hp
        have hl := t_Ma_longestAt_j37 sh c hS hp v1 v2 v3 0 res _ hf hk
        exact Fx.le hl (And.intro rfl (And.intro rfl (And.intro rfl (And.intro rfl trivial))))
      · replace hf := ifn b10 hf
        refine Fx.run [(.iconst 1, 1, 0, 0, .int 1)] 33 (by decide +kernel) ?_
        show Fx q_Ma_longestAt 1 sh 33 [some (.ref c), some (.int v1), some (.int v2), some (.int v3), none] [.int 1] hp (some (.int res)) hp
        refine Fx.goto (4) 37 (by decide +kernel) ?_
        have hl := t_Ma_longestAt_j37 sh c hS hp v1 v2 v3 1 res _ hf hk
        exact Fx.le hl (And.intro rfl (And.intro rfl (And.intro rfl (And.intro rfl trivial))))
set_option maxHeartbeats 4000000 in
set_option maxRecDepth 20000 in
theorem t_Ma_longestAt (sh : Shp) (c : Nat) (hS : S_Ma sh c) (hp : HP) (v1 : Int32) (res : Int32) (hf : f_Ma_longestAt c hp v1 = some res) : Ex 1 q_Ma_longestAt sh [.ref c, .int v1] hp (some (.int res)) hp := by
  refine Ex.of [some (.ref c), some (.int v1), none, none, none] rfl (Nat.le_of_ble_eq_true rfl) (by decide +kernel) rfl ?_
  obtain ⟨t, hk⟩ : ∃ t, t = res := ⟨res, rfl⟩
  rw [← hk] at hf
  unfold f_Ma_longestAt at hf
  refine Fx.run [(.iconst (-1), 1, 0, 0, .int (-1)), (.istore_n 2, 1, 2, 0, .null), (.iconst 0, 1, 0, 0, .int 0), (.istore_n 3, 1, 3, 0, .null)] 4 (by decide +kernel) ?_
  show Fx q_Ma_longestAt 1 sh 4 [some (.ref c), some (.int v1), some (.int (-1)), some (.int 0), none] [] hp (some (.int res)) hp
  have hl := t_Ma_longestAt_l4 sh c hS hp v1 res ((-1), 0) _ hf hk
  have hl : Fx q_Ma_longestAt 1 sh 4 [some (.ref c), some (.int v1), some (.int (-1)), some (.int 0), none] [] hp (some (.int res)) hp := hl
  exact Fx.le hl (And.intro rfl (And.intro rfl (And.intro rfl (And.intro rfl trivial))))
abbrev P_Ma_nextStart_7 (sh : Shp) (c : Nat) (hp : HP) (v1 : Int32) (res : Int32) : (Int32 × Int32) → Prop := fun s => Fx q_Ma_nextStart 1 sh 7 [some (.ref c), some (.int v1), some (.int s.1), some (.int s.2)] [] hp (some (.int res)) hp
set_option maxHeartbeats 4000000 in
set_option maxRecDepth 20000 in
theorem t_Ma_nextStart_l7 (sh : Shp) (c : Nat) (hS : S_Ma sh c) (hp : HP) (v1 : Int32) (res : Int32) : ∀ (s : (Int32 × Int32)) (t : Int32), f_Ma_nextStart_l7 c hp v1 s = some t → (fun v => v = res) t → P_Ma_nextStart_7 sh c hp v1 res s := by
  refine loop_ind (P_Ma_nextStart_7 sh c hp v1 res) (fun v => v = res) ?_
  intro s t hf hk
  obtain ⟨v2, v3⟩ := s
  replace hf : f_Ma_nextStart_b7 c hp v1 v2 v3 = some t := hf
  show Fx q_Ma_nextStart 1 sh 7 [some (.ref c), some (.int v1), some (.int v2), some (.int v3)] [] hp (some (.int res)) hp
  unfold f_Ma_nextStart_b7 at hf
  refine Fx.run [(.iload_n 3, 1, 3, 0, .null), (.aload_n 0, 1, 0, 0, .null), (.getfield 43, 3, 2, 3, .null)] 12 (by decide +kernel) ?_
  show isK sh c 2 ∧ Fx q_Ma_nextStart 1 sh 12 [some (.ref c), some (.int v1), some (.int v2), some (.int v3)] [.int (hp.1 c 3), .int v3] hp (some (.int res)) hp
  refine ⟨hS.1, ?_⟩
  refine Fx.icmp_ge (30) 42 15 (by decide +kernel) (fun b1 => ?_) (fun b1 => ?_)
  · replace hf := ifp b1 hf
    replace hf := mpd hf
    obtain ⟨t, hf, rfl⟩ := hf
    refine Fx.run [(.iload_n 2, 1, 2, 0, .null)] 43 (by decide +kernel) ?_
    show Fx q_Ma_nextStart 1 sh 43 [some (.ref c), some (.int v1), some (.int v2), some (.int v3)] [.int v2] hp (some (.int res)) hp
    obtain rfl := Option.some.inj hf
    have hk : v2 = res := hk
    subst hk
    exact Fx.iret (by decide +kernel) rfl
  · replace hf := ifn b1 hf
    replace hf := gd hf
    obtain ⟨g2, hf⟩ := hf
    refine Fx.run [(.aload_n 0, 1, 0, 0, .null), (.getfield 15, 3, 2, 1, .ref 2), (.iload_n 3, 1, 3, 0, .null), (.iaload, 1, 40, 0, .null), (.iload_n 1, 1, 1, 0, .null)] 22 (by decide +kernel) ?_
    show isK sh c 2 ∧ (isA sh (c + 2) 10 40 ∧ inb v3 40) ∧ Fx q_Ma_nextStart 1 sh 22 [some (.ref c), some (.int v1), some (.int v2), some (.int v3)] [.int v1, .int (hp.1 (c + 2) (ix v3))] hp (some (.int res)) hp
    refine ⟨hS.1, ⟨hS.2.2.1, g2⟩, ?_⟩
    refine Fx.icmp_le (14) 36 25 (by decide +kernel) (fun b3 => ?_) (fun b3 => ?_)
    · replace hf := ifp b3 hf
      refine Fx.run [(.iinc 3 1, 3, 3, 0, .int 1)] 39 (by decide +kernel) ?_
      show Fx q_Ma_nextStart 1 sh 39 [some (.ref c), some (.int v1), some (.int v2), some (.int (v3 + 1))] [] hp (some (.int res)) hp
      refine Fx.goto (-32) 7 (by decide +kernel) ?_
      obtain rfl := Option.some.inj hf
      have hk : Fx q_Ma_nextStart 1 sh 7 [some (.ref c), some (.int v1), some (.int v2), some (.int (v3 + 1))] [] hp (some (.int res)) hp := hk
      exact Fx.le hk (And.intro rfl (And.intro rfl (And.intro rfl (And.intro rfl trivial))))
    · replace hf := ifn b3 hf
      replace hf := gd hf
      obtain ⟨g4, hf⟩ := hf
      refine Fx.run [(.iload_n 2, 1, 2, 0, .null), (.aload_n 0, 1, 0, 0, .null), (.getfield 15, 3, 2, 1, .ref 2), (.iload_n 3, 1, 3, 0, .null), (.iaload, 1, 40, 0, .null)] 32 (by decide +kernel) ?_
      show isK sh c 2 ∧ (isA sh (c + 2) 10 40 ∧ inb v3 40) ∧ Fx q_Ma_nextStart 1 sh 32 [some (.ref c), some (.int v1), some (.int v2), some (.int v3)] [.int (hp.1 (c + 2) (ix v3)), .int v2] hp (some (.int res)) hp
      refine ⟨hS.1, ⟨hS.2.2.1, g4⟩, ?_⟩
      refine Fx.mmin lk_2_71 (by decide +kernel) (by decide) (Nat.le_of_ble_eq_true rfl) ?_
      show Fx q_Ma_nextStart 1 sh 35 [some (.ref c), some (.int v1), some (.int v2), some (.int v3)] [.int (if (hp.1 (c + 2) (ix v3)) < v2 then (hp.1 (c + 2) (ix v3)) else v2)] hp (some (.int res)) hp
      refine Fx.run [(.istore_n 2, 1, 2, 0, .null), (.iinc 3 1, 3, 3, 0, .int 1)] 39 (by decide +kernel) ?_
      show Fx q_Ma_nextStart 1 sh 39 [some (.ref c), some (.int v1), some (.int (if (hp.1 (c + 2) (ix v3)) < v2 then (hp.1 (c + 2) (ix v3)) else v2)), some (.int (v3 + 1))] [] hp (some (.int res)) hp
      refine Fx.goto (-32) 7 (by decide +kernel) ?_
      obtain rfl := Option.some.inj hf
      have hk : Fx q_Ma_nextStart 1 sh 7 [some (.ref c), some (.int v1), some (.int (if (hp.1 (c + 2) (ix v3)) < v2 then (hp.1 (c + 2) (ix v3)) else v2)), some (.int (v3 + 1))] [] hp (some (.int res)) hp := hk
      exact Fx.le hk (And.intro rfl (And.intro rfl (And.intro rfl (And.intro rfl trivial))))
set_option maxHeartbeats 4000000 in
set_option maxRecDepth 20000 in
theorem t_Ma_nextStart (sh : Shp) (c : Nat) (hS : S_Ma sh c) (hp : HP) (v1 : Int32) (res : Int32) (hf : f_Ma_nextStart c hp v1 = some res) : Ex 1 q_Ma_nextStart sh [.ref c, .int v1] hp (some (.int res)) hp := by
  refine Ex.of [some (.ref c), some (.int v1), none, none] rfl (Nat.le_of_ble_eq_true rfl) (by decide +kernel) rfl ?_
  obtain ⟨t, hk⟩ : ∃ t, t = res := ⟨res, rfl⟩
  rw [← hk] at hf
  unfold f_Ma_nextStart at hf
  refine Fx.run [(.aload_n 0, 1, 0, 0, .null), (.getfield 40, 3, 2, 5, .null), (.istore_n 2, 1, 2, 0, .null), (.iconst 0, 1, 0, 0, .int 0), (.istore_n 3, 1, 3, 0, .null)] 7 (by decide +kernel) ?_
  show isK sh c 2 ∧ Fx q_Ma_nextStart 1 sh 7 [some (.ref c), some (.int v1), some (.int (hp.1 c 5)), some (.int 0)] [] hp (some (.int res)) hp
  refine ⟨hS.1, ?_⟩
  have hl := t_Ma_nextStart_l7 sh c hS hp v1 res ((hp.1 c 5), 0) _ hf hk
  have hl : Fx q_Ma_nextStart 1 sh 7 [some (.ref c), some (.int v1), some (.int (hp.1 c 5)), some (.int 0)] [] hp (some (.int res)) hp := hl
  exact Fx.le hl (And.intro rfl (And.intro rfl (And.intro rfl (And.intro rfl trivial))))
set_option maxHeartbeats 4000000 in
set_option maxRecDepth 20000 in
theorem t_Pa_put (sh : Shp) (c : Nat) (hS : S_Pa sh c) (hp : HP) (v1 : Int32) (v2 : Int32) (v3 : Int32) (v4 : Int32) (v5 : Int32) (res : HP) (hf : f_Pa_put c hp v1 v2 v3 v4 v5 = some res) : Ex 1 q_Pa_put sh [.ref c, .int v1, .int v2, .int v3, .int v4, .int v5] hp none res := by
  refine Ex.of [some (.ref c), some (.int v1), some (.int v2), some (.int v3), some (.int v4), some (.int v5), none] rfl (Nat.le_of_ble_eq_true rfl) (by decide +kernel) rfl ?_
  obtain ⟨t, hk⟩ : ∃ t, t = res := ⟨res, rfl⟩
  rw [← hk] at hf
  unfold f_Pa_put at hf
  refine Fx.run [(.aload_n 0, 1, 0, 0, .null), (.getfield 18, 3, 3, 2, .null), (.sipush 160, 3, 0, 0, .int 160)] 7 (by decide +kernel) ?_
  show isK sh c 3 ∧ Fx q_Pa_put 1 sh 7 [some (.ref c), some (.int v1), some (.int v2), some (.int v3), some (.int v4), some (.int v5), none] [.int 160, .int (hp.1 c 2)] hp none res
  refine ⟨hS.1, ?_⟩
  refine Fx.icmp_ge (71) 78 10 (by decide +kernel) (fun b1 => ?_) (fun b1 => ?_)
  · replace hf := ifp b1 hf
    obtain rfl := Option.some.inj hf
    have hk : hp = res := hk
    subst hk
    exact Fx.vret (by decide +kernel) rfl
  · replace hf := ifn b1 hf
    replace hf := gd hf
    obtain ⟨g2, hf⟩ := hf
    replace hf := gd hf
    obtain ⟨g3, hf⟩ := hf
    replace hf := gd hf
    obtain ⟨g4, hf⟩ := hf
    replace hf := gd hf
    obtain ⟨g5, hf⟩ := hf
    replace hf := gd hf
    obtain ⟨g6, hf⟩ := hf
    refine Fx.run [(.aload_n 0, 1, 0, 0, .null), (.getfield 18, 3, 3, 2, .null), (.iconst 5, 1, 0, 0, .int 5), (.imul, 1, 0, 0, .null), (.istore 6, 2, 6, 0, .null), (.aload_n 0, 1, 0, 0, .null), (.getfield 11, 3, 3, 0, .ref 1), (.iload 6, 2, 6, 0, .null), (.iload_n 1, 1, 1, 0, .null), (.iastore, 1, 800, 0, .null), (.aload_n 0, 1, 0, 0, .null), (.getfield 11, 3, 3, 0, .ref 1), (.iload 6, 2, 6, 0, .null), (.iconst 1, 1, 0, 0, .int 1), (.iadd, 1, 0, 0, .null), (.iload_n 2, 1, 2, 0, .null), (.iastore, 1, 800, 0, .null), (.aload_n 0, 1, 0, 0, .null), (.getfield 11, 3, 3, 0, .ref 1), (.iload 6, 2, 6, 0, .null), (.iconst 2, 1, 0, 0, .int 2), (.iadd, 1, 0, 0, .null), (.iload_n 3, 1, 3, 0, .null), (.iastore, 1, 800, 0, .null), (.aload_n 0, 1, 0, 0, .null), (.getfield 11, 3, 3, 0, .ref 1), (.iload 6, 2, 6, 0, .null), (.iconst 3, 1, 0, 0, .int 3), (.iadd, 1, 0, 0, .null), (.iload 4, 2, 4, 0, .null), (.iastore, 1, 800, 0, .null), (.aload_n 0, 1, 0, 0, .null), (.getfield 11, 3, 3, 0, .ref 1), (.iload 6, 2, 6, 0, .null), (.iconst 4, 1, 0, 0, .int 4), (.iadd, 1, 0, 0, .null), (.iload 5, 2, 5, 0, .null), (.iastore, 1, 800, 0, .null), (.aload_n 0, 1, 0, 0, .null), (.dup, 1, 0, 0, .null), (.getfield 18, 3, 3, 2, .null), (.iconst 1, 1, 0, 0, .int 1), (.iadd, 1, 0, 0, .null), (.putfield 18, 3, 3, 2, .null)] 78 (by decide +kernel) ?_
    show isK sh c 3 ∧ isK sh c 3 ∧ (isA sh (c + 1) 10 800 ∧ inb ((hp.1 c 2) * 5) 800) ∧ isK sh c 3 ∧ (isA sh (c + 1) 10 800 ∧ inb (((hp.1 c 2) * 5) + 1) 800) ∧ isK sh c 3 ∧ (isA sh (c + 1) 10 800 ∧ inb (((hp.1 c 2) * 5) + 2) 800) ∧ isK sh c 3 ∧ (isA sh (c + 1) 10 800 ∧ inb (((hp.1 c 2) * 5) + 3) 800) ∧ isK sh c 3 ∧ (isA sh (c + 1) 10 800 ∧ inb (((hp.1 c 2) * 5) + 4) 800) ∧ isK sh c 3 ∧ isK sh c 3 ∧ Fx q_Pa_put 1 sh 78 [some (.ref c), some (.int v1), some (.int v2), some (.int v3), some (.int v4), some (.int v5), some (.int ((hp.1 c 2) * 5))] [] (upI (upI (upI (upI (upI (upI hp (c + 1) (ix ((hp.1 c 2) * 5)) v1) (c + 1) (ix (((hp.1 c 2) * 5) + 1)) v2) (c + 1) (ix (((hp.1 c 2) * 5) + 2)) v3) (c + 1) (ix (((hp.1 c 2) * 5) + 3)) v4) (c + 1) (ix (((hp.1 c 2) * 5) + 4)) v5) c 2 (((upI (upI (upI (upI (upI hp (c + 1) (ix ((hp.1 c 2) * 5)) v1) (c + 1) (ix (((hp.1 c 2) * 5) + 1)) v2) (c + 1) (ix (((hp.1 c 2) * 5) + 2)) v3) (c + 1) (ix (((hp.1 c 2) * 5) + 3)) v4) (c + 1) (ix (((hp.1 c 2) * 5) + 4)) v5).1 c 2) + 1)) none res
    refine ⟨hS.1, hS.1, ⟨hS.2.1, g2⟩, hS.1, ⟨hS.2.1, g3⟩, hS.1, ⟨hS.2.1, g4⟩, hS.1, ⟨hS.2.1, g5⟩, hS.1, ⟨hS.2.1, g6⟩, hS.1, hS.1, ?_⟩
    obtain rfl := Option.some.inj hf
    have hk : (upI (upI (upI (upI (upI (upI hp (c + 1) (ix ((hp.1 c 2) * 5)) v1) (c + 1) (ix (((hp.1 c 2) * 5) + 1)) v2) (c + 1) (ix (((hp.1 c 2) * 5) + 2)) v3) (c + 1) (ix (((hp.1 c 2) * 5) + 3)) v4) (c + 1) (ix (((hp.1 c 2) * 5) + 4)) v5) c 2 (((upI (upI (upI (upI (upI hp (c + 1) (ix ((hp.1 c 2) * 5)) v1) (c + 1) (ix (((hp.1 c 2) * 5) + 1)) v2) (c + 1) (ix (((hp.1 c 2) * 5) + 2)) v3) (c + 1) (ix (((hp.1 c 2) * 5) + 3)) v4) (c + 1) (ix (((hp.1 c 2) * 5) + 4)) v5).1 c 2) + 1)) = res := hk
    subst hk
    exact Fx.vret (by decide +kernel) rfl
abbrev P_Ma_layCover_11 (sh : Shp) (c : Nat) (v1 : Nat) (res : HP) : (HP × Int32 × Int32) → Prop := fun s => Fx q_Ma_layCover 2 sh 11 [some (.ref c), some (.ref v1), some (.int s.2.1), some (.int s.2.2), none, none] [] s.1 none res
set_option maxHeartbeats 4000000 in
set_option maxRecDepth 20000 in
theorem t_Ma_layCover_j89 (sh : Shp) (c : Nat) (hS : S_Ma sh c) (hp : HP) (v1 : Nat) (hv1 : S_Pa sh v1) (v3 : Int32) (v5 : Int32) (s0 : Int32) (s1 : Int32) (s2 : Int32) (s3 : Nat) (hs3 : S_Pa sh s3) (res : HP) (t : ((HP × Int32 × Int32) ⊕ HP)) (hf : f_Ma_layCover_j89 c hp v1 v3 v5 s0 s1 s2 s3 = some t) (hk : (Kel (P_Ma_layCover_11 sh c v1 res) (fun v => v = res)) t) : Fx q_Ma_layCover 2 sh 89 [some (.ref c), some (.ref v1), none, some (.int v3), none, some (.int v5)] [.int s0, .int s1, .int s2, .ref s3] hp none res := by
  unfold f_Ma_layCover_j89 at hf
  refine Fx.run [(.iconst 0, 1, 0, 0, .int 0), (.iconst 0, 1, 0, 0, .int 0)] 91 (by decide +kernel) ?_
  show Fx q_Ma_layCover 2 sh 91 [some (.ref c), some (.ref v1), none, some (.int v3), none, some (.int v5)] [.int 0, .int 0, .int s0, .int s1, .int s2, .ref s3] hp none res
  replace hf := bnd hf
  obtain ⟨h13, hr12, hf⟩ := hf
  refine Fx.callV (rr := none) (hp1 := h13) [.int s2, .int s1, .int s0, .int 0, .int 0] [] lk_2_77 (by decide +kernel) (t_Pa_put sh s3 (hs3) hp s2 s1 s0 0 0 h13 hr12) ⟨Nat.le_of_ble_eq_true rfl, Nat.le_of_ble_eq_true rfl⟩ (hs3).1 (by decide) rfl (Nat.le_of_ble_eq_true rfl) ?_
  show Fx q_Ma_layCover 2 sh 94 [some (.ref c), some (.ref v1), none, some (.int v3), none, some (.int v5)] [] h13 none res
  refine Fx.run [(.iload 5, 2, 5, 0, .null), (.istore_n 2, 1, 2, 0, .null), (.iinc 3 1, 3, 3, 0, .int 1)] 100 (by decide +kernel) ?_
  show Fx q_Ma_layCover 2 sh 100 [some (.ref c), some (.ref v1), some (.int v5), some (.int (v3 + 1)), none, some (.int v5)] [] h13 none res
  refine Fx.goto (-89) 11 (by decide +kernel) ?_
  obtain rfl := Option.some.inj hf
  have hk : Fx q_Ma_layCover 2 sh 11 [some (.ref c), some (.ref v1), some (.int v5), some (.int (v3 + 1)), none, none] [] h13 none res := hk
  exact Fx.le hk (And.intro rfl (And.intro rfl (And.intro rfl (And.intro rfl trivial))))
set_option maxHeartbeats 4000000 in
set_option maxRecDepth 20000 in
theorem t_Ma_layCover_j60 (sh : Shp) (c : Nat) (hS : S_Ma sh c) (hp : HP) (v1 : Nat) (hv1 : S_Pa sh v1) (v2 : Int32) (v3 : Int32) (v4 : Int32) (s0 : Int32) (res : HP) (t : ((HP × Int32 × Int32) ⊕ HP)) (hf : f_Ma_layCover_j60 c hp v1 v2 v3 v4 s0 = some t) (hk : (Kel (P_Ma_layCover_11 sh c v1 res) (fun v => v = res)) t) : Fx q_Ma_layCover 2 sh 60 [some (.ref c), some (.ref v1), some (.int v2), some (.int v3), some (.int v4), none] [.int s0] hp none res := by
  unfold f_Ma_layCover_j60 at hf
  refine Fx.run [(.istore 5, 2, 5, 0, .null), (.aload_n 1, 1, 1, 0, .null), (.iload_n 2, 1, 2, 0, .null)] 64 (by decide +kernel) ?_
  show Fx q_Ma_layCover 2 sh 64 [some (.ref c), some (.ref v1), some (.int v2), some (.int v3), some (.int v4), some (.int s0)] [.int v2, .ref v1] hp none res
  replace hf := bnd hf
  obtain ⟨r8, hr8, hf⟩ := hf
  refine Fx.callN (rr := (some (.int r8))) (hp1 := hp) [.int v2] [.ref v1] lk_2_74 (by decide +kernel) (t_TJ_timeOf sh hp v2 r8 hr8) ⟨Nat.le_of_ble_eq_true rfl, Nat.le_of_ble_eq_true rfl⟩ rfl (Nat.le_of_ble_eq_true rfl) ?_
  show Fx q_Ma_layCover 2 sh 67 [some (.ref c), some (.ref v1), some (.int v2), some (.int v3), some (.int v4), some (.int s0)] [.int r8, .ref v1] hp none res
  refine Fx.run [(.iload 5, 2, 5, 0, .null)] 69 (by decide +kernel) ?_
  show Fx q_Ma_layCover 2 sh 69 [some (.ref c), some (.ref v1), some (.int v2), some (.int v3), some (.int v4), some (.int s0)] [.int s0, .int r8, .ref v1] hp none res
  replace hf := bnd hf
  obtain ⟨r9, hr9, hf⟩ := hf
  refine Fx.callN (rr := (some (.int r9))) (hp1 := hp) [.int s0] [.int r8, .ref v1] lk_2_74 (by decide +kernel) (t_TJ_timeOf sh hp s0 r9 hr9) ⟨Nat.le_of_ble_eq_true rfl, Nat.le_of_ble_eq_true rfl⟩ rfl (Nat.le_of_ble_eq_true rfl) ?_
  show Fx q_Ma_layCover 2 sh 72 [some (.ref c), some (.ref v1), some (.int v2), some (.int v3), some (.int v4), some (.int s0)] [.int r9, .int r8, .ref v1] hp none res
  refine Fx.run [(.iload 4, 2, 4, 0, .null), (.iconst (-1), 1, 0, 0, .int (-1))] 75 (by decide +kernel) ?_
  show Fx q_Ma_layCover 2 sh 75 [some (.ref c), some (.ref v1), some (.int v2), some (.int v3), some (.int v4), some (.int s0)] [.int (-1), .int v4, .int r9, .int r8, .ref v1] hp none res
  refine Fx.icmp_ne (7) 82 78 (by decide +kernel) (fun b10 => ?_) (fun b10 => ?_)
  · replace hf := ifn b10 hf
    replace hf := gd hf
    obtain ⟨g11, hf⟩ := hf
    refine Fx.run [(.aload_n 0, 1, 0, 0, .null), (.getfield 9, 3, 2, 0, .ref 1), (.iload 4, 2, 4, 0, .null), (.iaload, 1, 40, 0, .null)] 89 (by decide +kernel) ?_
    show isK sh c 2 ∧ (isA sh (c + 1) 10 40 ∧ inb v4 40) ∧ Fx q_Ma_layCover 2 sh 89 [some (.ref c), some (.ref v1), some (.int v2), some (.int v3), some (.int v4), some (.int s0)] [.int (hp.1 (c + 1) (ix v4)), .int r9, .int r8, .ref v1] hp none res
    refine ⟨hS.1, ⟨hS.2.1, g11⟩, ?_⟩
    have hl := t_Ma_layCover_j89 sh c hS hp v1 (hv1) v3 s0 (hp.1 (c + 1) (ix v4)) r9 r8 v1 (hv1) res _ hf hk
    exact Fx.le hl (And.intro rfl (And.intro rfl (And.intro rfl (And.intro rfl trivial))))
  · replace hf := ifp b10 hf
    refine Fx.run [(.iconst (-1), 1, 0, 0, .int (-1))] 79 (by decide +kernel) ?_
    show Fx q_Ma_layCover 2 sh 79 [some (.ref c), some (.ref v1), some (.int v2), some (.int v3), some (.int v4), some (.int s0)] [.int (-1), .int r9, .int r8, .ref v1] hp none res
    refine Fx.goto (10) 89 (by decide +kernel) ?_
    have hl := t_Ma_layCover_j89 sh c hS hp v1 (hv1) v3 s0 (-1) r9 r8 v1 (hv1) res _ hf hk
    exact Fx.le hl (And.intro rfl (And.intro rfl (And.intro rfl (And.intro rfl trivial))))
set_option maxHeartbeats 4000000 in
set_option maxRecDepth 20000 in
theorem t_Ma_layCover_l11 (sh : Shp) (c : Nat) (hS : S_Ma sh c) (hp : HP) (v1 : Nat) (hv1 : S_Pa sh v1) (res : HP) : ∀ (s : (HP × Int32 × Int32)) (t : HP), f_Ma_layCover_l11 c hp v1 s = some t → (fun v => v = res) t → P_Ma_layCover_11 sh c v1 res s := by
  refine loop_ind (P_Ma_layCover_11 sh c v1 res) (fun v => v = res) ?_
  intro s t hf hk
  obtain ⟨hp, v2, v3⟩ := s
  replace hf : f_Ma_layCover_b11 c hp v1 v2 v3 = some t := hf
  show Fx q_Ma_layCover 2 sh 11 [some (.ref c), some (.ref v1), some (.int v2), some (.int v3), none, none] [] hp none res
  unfold f_Ma_layCover_b11 at hf
  refine Fx.run [(.iload_n 3, 1, 3, 0, .null), (.bipush 81, 2, 0, 0, .int 81)] 14 (by decide +kernel) ?_
  show Fx q_Ma_layCover 2 sh 14 [some (.ref c), some (.ref v1), some (.int v2), some (.int v3), none, none] [.int 81, .int v3] hp none res
  refine Fx.icmp_ge (89) 103 17 (by decide +kernel) (fun b3 => ?_) (fun b3 => ?_)
  · replace hf := ifp b3 hf
    replace hf := mpd hf
    obtain ⟨t, hf, rfl⟩ := hf
    obtain rfl := Option.some.inj hf
    have hk : hp = res := hk
    subst hk
    exact Fx.vret (by decide +kernel) rfl
  · replace hf := ifn b3 hf
    refine Fx.run [(.iload_n 2, 1, 2, 0, .null), (.aload_n 0, 1, 0, 0, .null), (.getfield 40, 3, 2, 5, .null)] 22 (by decide +kernel) ?_
    show isK sh c 2 ∧ Fx q_Ma_layCover 2 sh 22 [some (.ref c), some (.ref v1), some (.int v2), some (.int v3), none, none] [.int (hp.1 c 5), .int v2] hp none res
    refine ⟨hS.1, ?_⟩
    refine Fx.icmp_ge (81) 103 25 (by decide +kernel) (fun b4 => ?_) (fun b4 => ?_)
    · replace hf := ifp b4 hf
      replace hf := mpd hf
      obtain ⟨t, hf, rfl⟩ := hf
      obtain rfl := Option.some.inj hf
      have hk : hp = res := hk
      subst hk
      exact Fx.vret (by decide +kernel) rfl
    · replace hf := ifn b4 hf
      refine Fx.run [(.aload_n 0, 1, 0, 0, .null), (.iload_n 2, 1, 2, 0, .null)] 27 (by decide +kernel) ?_
      show Fx q_Ma_layCover 2 sh 27 [some (.ref c), some (.ref v1), some (.int v2), some (.int v3), none, none] [.int v2, .ref c] hp none res
      replace hf := bnd hf
      obtain ⟨r5, hr5, hf⟩ := hf
      refine Fx.callV (rr := (some (.int r5))) (hp1 := hp) [.int v2] [] lk_2_65 (by decide +kernel) (t_Ma_longestAt sh c (hS) hp v2 r5 hr5) ⟨Nat.le_of_ble_eq_true rfl, Nat.le_of_ble_eq_true rfl⟩ (hS).1 (by decide) rfl (Nat.le_of_ble_eq_true rfl) ?_
      show Fx q_Ma_layCover 2 sh 30 [some (.ref c), some (.ref v1), some (.int v2), some (.int v3), none, none] [.int r5] hp none res
      refine Fx.run [(.istore 4, 2, 4, 0, .null), (.iload 4, 2, 4, 0, .null), (.iconst (-1), 1, 0, 0, .int (-1))] 35 (by decide +kernel) ?_
      show Fx q_Ma_layCover 2 sh 35 [some (.ref c), some (.ref v1), some (.int v2), some (.int v3), some (.int r5), none] [.int (-1), .int r5] hp none res
      refine Fx.icmp_ne (11) 46 38 (by decide +kernel) (fun b6 => ?_) (fun b6 => ?_)
      · replace hf := ifn b6 hf
        replace hf := gd hf
        obtain ⟨g7, hf⟩ := hf
        refine Fx.run [(.aload_n 0, 1, 0, 0, .null), (.getfield 18, 3, 2, 2, .ref 3), (.iload 4, 2, 4, 0, .null), (.iaload, 1, 40, 0, .null), (.aload_n 0, 1, 0, 0, .null), (.getfield 40, 3, 2, 5, .null)] 57 (by decide +kernel) ?_
        show isK sh c 2 ∧ (isA sh (c + 3) 10 40 ∧ inb r5 40) ∧ isK sh c 2 ∧ Fx q_Ma_layCover 2 sh 57 [some (.ref c), some (.ref v1), some (.int v2), some (.int v3), some (.int r5), none] [.int (hp.1 c 5), .int (hp.1 (c + 3) (ix r5))] hp none res
        refine ⟨hS.1, ⟨hS.2.2.2, g7⟩, hS.1, ?_⟩
        refine Fx.mmin lk_2_71 (by decide +kernel) (by decide) (Nat.le_of_ble_eq_true rfl) ?_
        show Fx q_Ma_layCover 2 sh 60 [some (.ref c), some (.ref v1), some (.int v2), some (.int v3), some (.int r5), none] [.int (if (hp.1 c 5) < (hp.1 (c + 3) (ix r5)) then (hp.1 c 5) else (hp.1 (c + 3) (ix r5)))] hp none res
        have hl := t_Ma_layCover_j60 sh c hS hp v1 (hv1) v2 v3 r5 (if (hp.1 c 5) < (hp.1 (c + 3) (ix r5)) then (hp.1 c 5) else (hp.1 (c + 3) (ix r5))) res _ hf hk
        exact Fx.le hl (And.intro rfl (And.intro rfl (And.intro rfl (And.intro rfl (And.intro rfl trivial)))))
      · replace hf := ifp b6 hf
        refine Fx.run [(.aload_n 0, 1, 0, 0, .null), (.iload_n 2, 1, 2, 0, .null)] 40 (by decide +kernel) ?_
        show Fx q_Ma_layCover 2 sh 40 [some (.ref c), some (.ref v1), some (.int v2), some (.int v3), some (.int r5), none] [.int v2, .ref c] hp none res
        replace hf := bnd hf
        obtain ⟨r14, hr14, hf⟩ := hf
        refine Fx.callV (rr := (some (.int r14))) (hp1 := hp) [.int v2] [] lk_2_68 (by decide +kernel) (t_Ma_nextStart sh c (hS) hp v2 r14 hr14) ⟨Nat.le_of_ble_eq_true rfl, Nat.le_of_ble_eq_true rfl⟩ (hS).1 (by decide) rfl (Nat.le_of_ble_eq_true rfl) ?_
        show Fx q_Ma_layCover 2 sh 43 [some (.ref c), some (.ref v1), some (.int v2), some (.int v3), some (.int r5), none] [.int r14] hp none res
        refine Fx.goto (17) 60 (by decide +kernel) ?_
        have hl := t_Ma_layCover_j60 sh c hS hp v1 (hv1) v2 v3 r5 r14 res _ hf hk
        exact Fx.le hl (And.intro rfl (And.intro rfl (And.intro rfl (And.intro rfl (And.intro rfl trivial)))))
set_option maxHeartbeats 4000000 in
set_option maxRecDepth 20000 in
theorem t_Ma_layCover (sh : Shp) (c : Nat) (hS : S_Ma sh c) (hp : HP) (v1 : Nat) (hv1 : S_Pa sh v1) (res : HP) (hf : f_Ma_layCover c hp v1 = some res) : Ex 2 q_Ma_layCover sh [.ref c, .ref v1] hp none res := by
  refine Ex.of [some (.ref c), some (.ref v1), none, none, none, none] rfl (Nat.le_of_ble_eq_true rfl) (by decide +kernel) rfl ?_
  obtain ⟨t, hk⟩ : ∃ t, t = res := ⟨res, rfl⟩
  rw [← hk] at hf
  unfold f_Ma_layCover at hf
  refine Fx.run [(.aload_n 1, 1, 1, 0, .null)] 1 (by decide +kernel) ?_
  show Fx q_Ma_layCover 2 sh 1 [some (.ref c), some (.ref v1), none, none, none, none] [.ref v1] hp none res
  replace hf := bnd hf
  obtain ⟨h2, hr1, hf⟩ := hf
  refine Fx.callV (rr := none) (hp1 := h2) [] [] lk_2_60 (by decide +kernel) (t_Pa_empty sh v1 (hv1) hp h2 hr1) ⟨Nat.le_of_ble_eq_true rfl, Nat.le_of_ble_eq_true rfl⟩ (hv1).1 (by decide) rfl (Nat.le_of_ble_eq_true rfl) ?_
  show Fx q_Ma_layCover 2 sh 4 [some (.ref c), some (.ref v1), none, none, none, none] [] h2 none res
  refine Fx.run [(.aload_n 0, 1, 0, 0, .null), (.getfield 33, 3, 2, 4, .null), (.istore_n 2, 1, 2, 0, .null), (.iconst 0, 1, 0, 0, .int 0), (.istore_n 3, 1, 3, 0, .null)] 11 (by decide +kernel) ?_
  show isK sh c 2 ∧ Fx q_Ma_layCover 2 sh 11 [some (.ref c), some (.ref v1), some (.int (h2.1 c 4)), some (.int 0), none, none] [] h2 none res
  refine ⟨hS.1, ?_⟩
  have hl := t_Ma_layCover_l11 sh c hS h2 v1 (hv1) res (h2, (h2.1 c 4), 0) _ hf hk
  have hl : Fx q_Ma_layCover 2 sh 11 [some (.ref c), some (.ref v1), some (.int (h2.1 c 4)), some (.int 0), none, none] [] h2 none res := hl
  exact Fx.le hl (And.intro rfl (And.intro rfl (And.intro rfl (And.intro rfl trivial))))
set_option maxHeartbeats 4000000 in
set_option maxRecDepth 20000 in
theorem t_Pa_cell_j26 (sh : Shp) (c : Nat) (hS : S_Pa sh c) (hp : HP) (v1 : Int32) (v2 : Int32) (s0 : Int32) (res : Int32) (t : Int32) (hf : f_Pa_cell_j26 c hp v1 v2 s0 = some t) (hk : (fun v => v = res) t) : Fx q_Pa_cell 1 sh 26 [some (.ref c), some (.int v1), some (.int v2), none] [.int s0] hp (some (.int res)) hp := by
  unfold f_Pa_cell_j26 at hf
  refine Fx.run [(.istore_n 3, 1, 3, 0, .null), (.iload_n 3, 1, 3, 0, .null)] 28 (by decide +kernel) ?_
  show Fx q_Pa_cell 1 sh 28 [some (.ref c), some (.int v1), some (.int v2), some (.int s0)] [.int s0] hp (some (.int res)) hp
  refine Fx.if_eq (16) 44 31 (by decide +kernel) (fun b2 => ?_) (fun b2 => ?_)
  · replace hf := ifp b2 hf
    refine Fx.run [(.ldc 22, 2, 0, 0, .int (-10000000))] 46 (by decide +kernel) ?_
    show Fx q_Pa_cell 1 sh 46 [some (.ref c), some (.int v1), some (.int v2), some (.int s0)] [.int (-10000000)] hp (some (.int res)) hp
    obtain rfl := Option.some.inj hf
    have hk : (-10000000) = res := hk
    subst hk
    exact Fx.iret (by decide +kernel) rfl
  · replace hf := ifn b2 hf
    replace hf := gd hf
    obtain ⟨g3, hf⟩ := hf
    refine Fx.run [(.aload_n 0, 1, 0, 0, .null), (.getfield 11, 3, 3, 0, .ref 1), (.iload_n 1, 1, 1, 0, .null), (.iconst 5, 1, 0, 0, .int 5), (.imul, 1, 0, 0, .null), (.iload_n 2, 1, 2, 0, .null), (.iadd, 1, 0, 0, .null), (.iaload, 1, 800, 0, .null)] 41 (by decide +kernel) ?_
    show isK sh c 3 ∧ (isA sh (c + 1) 10 800 ∧ inb ((v1 * 5) + v2) 800) ∧ Fx q_Pa_cell 1 sh 41 [some (.ref c), some (.int v1), some (.int v2), some (.int s0)] [.int (hp.1 (c + 1) (ix ((v1 * 5) + v2)))] hp (some (.int res)) hp
    refine ⟨hS.1, ⟨hS.2.1, g3⟩, ?_⟩
    refine Fx.goto (5) 46 (by decide +kernel) ?_
    obtain rfl := Option.some.inj hf
    have hk : (hp.1 (c + 1) (ix ((v1 * 5) + v2))) = res := hk
    subst hk
    exact Fx.iret (by decide +kernel) rfl
set_option maxHeartbeats 4000000 in
set_option maxRecDepth 20000 in
theorem t_Pa_cell (sh : Shp) (c : Nat) (hS : S_Pa sh c) (hp : HP) (v1 : Int32) (v2 : Int32) (res : Int32) (hf : f_Pa_cell c hp v1 v2 = some res) : Ex 1 q_Pa_cell sh [.ref c, .int v1, .int v2] hp (some (.int res)) hp := by
  refine Ex.of [some (.ref c), some (.int v1), some (.int v2), none] rfl (Nat.le_of_ble_eq_true rfl) (by decide +kernel) rfl ?_
  obtain ⟨t, hk⟩ : ∃ t, t = res := ⟨res, rfl⟩
  rw [← hk] at hf
  unfold f_Pa_cell at hf
  refine Fx.run [(.iload_n 1, 1, 1, 0, .null)] 1 (by decide +kernel) ?_
  show Fx q_Pa_cell 1 sh 1 [some (.ref c), some (.int v1), some (.int v2), none] [.int v1] hp (some (.int res)) hp
  refine Fx.if_lt (24) 25 4 (by decide +kernel) (fun b1 => ?_) (fun b1 => ?_)
  · replace hf := ifp b1 hf
    refine Fx.run [(.iconst 0, 1, 0, 0, .int 0)] 26 (by decide +kernel) ?_
    show Fx q_Pa_cell 1 sh 26 [some (.ref c), some (.int v1), some (.int v2), none] [.int 0] hp (some (.int res)) hp
    have hl := t_Pa_cell_j26 sh c hS hp v1 v2 0 res _ hf hk
    exact Fx.le hl (And.intro rfl (And.intro rfl (And.intro rfl trivial)))
  · replace hf := ifn b1 hf
    refine Fx.run [(.iload_n 1, 1, 1, 0, .null), (.aload_n 0, 1, 0, 0, .null), (.getfield 18, 3, 3, 2, .null)] 9 (by decide +kernel) ?_
    show isK sh c 3 ∧ Fx q_Pa_cell 1 sh 9 [some (.ref c), some (.int v1), some (.int v2), none] [.int (hp.1 c 2), .int v1] hp (some (.int res)) hp
    refine ⟨hS.1, ?_⟩
    refine Fx.icmp_ge (16) 25 12 (by decide +kernel) (fun b4 => ?_) (fun b4 => ?_)
    · replace hf := ifp b4 hf
      refine Fx.run [(.iconst 0, 1, 0, 0, .int 0)] 26 (by decide +kernel) ?_
      show Fx q_Pa_cell 1 sh 26 [some (.ref c), some (.int v1), some (.int v2), none] [.int 0] hp (some (.int res)) hp
      have hl := t_Pa_cell_j26 sh c hS hp v1 v2 0 res _ hf hk
      exact Fx.le hl (And.intro rfl (And.intro rfl (And.intro rfl trivial)))
    · replace hf := ifn b4 hf
      refine Fx.run [(.iload_n 2, 1, 2, 0, .null)] 13 (by decide +kernel) ?_
      show Fx q_Pa_cell 1 sh 13 [some (.ref c), some (.int v1), some (.int v2), none] [.int v2] hp (some (.int res)) hp
      refine Fx.if_lt (12) 25 16 (by decide +kernel) (fun b5 => ?_) (fun b5 => ?_)
      · replace hf := ifp b5 hf
        refine Fx.run [(.iconst 0, 1, 0, 0, .int 0)] 26 (by decide +kernel) ?_
        show Fx q_Pa_cell 1 sh 26 [some (.ref c), some (.int v1), some (.int v2), none] [.int 0] hp (some (.int res)) hp
        have hl := t_Pa_cell_j26 sh c hS hp v1 v2 0 res _ hf hk
        exact Fx.le hl (And.intro rfl (And.intro rfl (And.intro rfl trivial)))
      · replace hf := ifn b5 hf
        refine Fx.run [(.iload_n 2, 1, 2, 0, .null), (.iconst 5, 1, 0, 0, .int 5)] 18 (by decide +kernel) ?_
        show Fx q_Pa_cell 1 sh 18 [some (.ref c), some (.int v1), some (.int v2), none] [.int 5, .int v2] hp (some (.int res)) hp
        refine Fx.icmp_ge (7) 25 21 (by decide +kernel) (fun b6 => ?_) (fun b6 => ?_)
        · replace hf := ifp b6 hf
          refine Fx.run [(.iconst 0, 1, 0, 0, .int 0)] 26 (by decide +kernel) ?_
          show Fx q_Pa_cell 1 sh 26 [some (.ref c), some (.int v1), some (.int v2), none] [.int 0] hp (some (.int res)) hp
          have hl := t_Pa_cell_j26 sh c hS hp v1 v2 0 res _ hf hk
          exact Fx.le hl (And.intro rfl (And.intro rfl (And.intro rfl trivial)))
        · replace hf := ifn b6 hf
          refine Fx.run [(.iconst 1, 1, 0, 0, .int 1)] 22 (by decide +kernel) ?_
          show Fx q_Pa_cell 1 sh 22 [some (.ref c), some (.int v1), some (.int v2), none] [.int 1] hp (some (.int res)) hp
          refine Fx.goto (4) 26 (by decide +kernel) ?_
          have hl := t_Pa_cell_j26 sh c hS hp v1 v2 1 res _ hf hk
          exact Fx.le hl (And.intro rfl (And.intro rfl (And.intro rfl trivial)))
abbrev P_TJ_countLeftOver_4 (sh : Shp) (c : Nat) (hp : HP)  (res : Int32) : (Int32 × Int32) → Prop := fun s => Fx q_TJ_countLeftOver 2 sh 4 [some (.ref c), some (.int s.1), some (.int s.2)] [] hp (some (.int res)) hp
set_option maxHeartbeats 4000000 in
set_option maxRecDepth 20000 in
theorem t_TJ_countLeftOver_l4 (sh : Shp) (c : Nat) (hS : S_TJ sh c) (hp : HP)  (res : Int32) : ∀ (s : (Int32 × Int32)) (t : Int32), f_TJ_countLeftOver_l4 c hp  s = some t → (fun v => v = res) t → P_TJ_countLeftOver_4 sh c hp  res s := by
  refine loop_ind (P_TJ_countLeftOver_4 sh c hp  res) (fun v => v = res) ?_
  intro s t hf hk
  obtain ⟨v1, v2⟩ := s
  replace hf : f_TJ_countLeftOver_b4 c hp  v1 v2 = some t := hf
  show Fx q_TJ_countLeftOver 2 sh 4 [some (.ref c), some (.int v1), some (.int v2)] [] hp (some (.int res)) hp
  unfold f_TJ_countLeftOver_b4 at hf
  refine Fx.run [(.iload_n 2, 1, 2, 0, .null), (.aload_n 0, 1, 0, 0, .null), (.getfield 26, 3, 8, 3, .ref 34), (.getfield 211, 3, 3, 2, .null)] 12 (by decide +kernel) ?_
  show isK sh c 8 ∧ isK sh (c + 34) 3 ∧ Fx q_TJ_countLeftOver 2 sh 12 [some (.ref c), some (.int v1), some (.int v2)] [.int (hp.1 (c + 34) 2), .int v2] hp (some (.int res)) hp
  refine ⟨hS.1, hS.2.2.2.1.1, ?_⟩
  refine Fx.icmp_ge (25) 37 15 (by decide +kernel) (fun b1 => ?_) (fun b1 => ?_)
  · replace hf := ifp b1 hf
    replace hf := mpd hf
    obtain ⟨t, hf, rfl⟩ := hf
    refine Fx.run [(.iload_n 1, 1, 1, 0, .null)] 38 (by decide +kernel) ?_
    show Fx q_TJ_countLeftOver 2 sh 38 [some (.ref c), some (.int v1), some (.int v2)] [.int v1] hp (some (.int res)) hp
    obtain rfl := Option.some.inj hf
    have hk : v1 = res := hk
    subst hk
    exact Fx.iret (by decide +kernel) rfl
  · replace hf := ifn b1 hf
    refine Fx.run [(.aload_n 0, 1, 0, 0, .null), (.getfield 26, 3, 8, 3, .ref 34), (.iload_n 2, 1, 2, 0, .null), (.iconst 2, 1, 0, 0, .int 2)] 21 (by decide +kernel) ?_
    show isK sh c 8 ∧ Fx q_TJ_countLeftOver 2 sh 21 [some (.ref c), some (.int v1), some (.int v2)] [.int 2, .int v2, .ref (c + 34)] hp (some (.int res)) hp
    refine ⟨hS.1, ?_⟩
    replace hf := bnd hf
    obtain ⟨r2, hr2, hf⟩ := hf
    refine Fx.callV (rr := (some (.int r2))) (hp1 := hp) [.int v2, .int 2] [] lk_8_218 (by decide +kernel) (t_Pa_cell sh (c + 34) (hS.2.2.2.1) hp v2 2 r2 hr2) ⟨Nat.le_of_ble_eq_true rfl, Nat.le_of_ble_eq_true rfl⟩ (hS.2.2.2.1).1 (by decide) rfl (Nat.le_of_ble_eq_true rfl) ?_
    show Fx q_TJ_countLeftOver 2 sh 24 [some (.ref c), some (.int v1), some (.int v2)] [.int r2] hp (some (.int res)) hp
    refine Fx.run [(.iconst (-1), 1, 0, 0, .int (-1))] 25 (by decide +kernel) ?_
    show Fx q_TJ_countLeftOver 2 sh 25 [some (.ref c), some (.int v1), some (.int v2)] [.int (-1), .int r2] hp (some (.int res)) hp
    refine Fx.icmp_ne (6) 31 28 (by decide +kernel) (fun b3 => ?_) (fun b3 => ?_)
    · replace hf := ifn b3 hf
      refine Fx.run [(.iinc 2 1, 3, 2, 0, .int 1)] 34 (by decide +kernel) ?_
      show Fx q_TJ_countLeftOver 2 sh 34 [some (.ref c), some (.int v1), some (.int (v2 + 1))] [] hp (some (.int res)) hp
      refine Fx.goto (-30) 4 (by decide +kernel) ?_
      obtain rfl := Option.some.inj hf
      have hk : Fx q_TJ_countLeftOver 2 sh 4 [some (.ref c), some (.int v1), some (.int (v2 + 1))] [] hp (some (.int res)) hp := hk
      exact Fx.le hk (And.intro rfl (And.intro rfl (And.intro rfl trivial)))
    · replace hf := ifp b3 hf
      refine Fx.run [(.iinc 1 1, 3, 1, 0, .int 1), (.iinc 2 1, 3, 2, 0, .int 1)] 34 (by decide +kernel) ?_
      show Fx q_TJ_countLeftOver 2 sh 34 [some (.ref c), some (.int (v1 + 1)), some (.int (v2 + 1))] [] hp (some (.int res)) hp
      refine Fx.goto (-30) 4 (by decide +kernel) ?_
      obtain rfl := Option.some.inj hf
      have hk : Fx q_TJ_countLeftOver 2 sh 4 [some (.ref c), some (.int (v1 + 1)), some (.int (v2 + 1))] [] hp (some (.int res)) hp := hk
      exact Fx.le hk (And.intro rfl (And.intro rfl (And.intro rfl trivial)))
set_option maxHeartbeats 4000000 in
set_option maxRecDepth 20000 in
theorem t_TJ_countLeftOver (sh : Shp) (c : Nat) (hS : S_TJ sh c) (hp : HP)  (res : Int32) (hf : f_TJ_countLeftOver c hp  = some res) : Ex 2 q_TJ_countLeftOver sh [.ref c] hp (some (.int res)) hp := by
  refine Ex.of [some (.ref c), none, none] rfl (Nat.le_of_ble_eq_true rfl) (by decide +kernel) rfl ?_
  obtain ⟨t, hk⟩ : ∃ t, t = res := ⟨res, rfl⟩
  rw [← hk] at hf
  unfold f_TJ_countLeftOver at hf
  refine Fx.run [(.iconst 0, 1, 0, 0, .int 0), (.istore_n 1, 1, 1, 0, .null), (.iconst 0, 1, 0, 0, .int 0), (.istore_n 2, 1, 2, 0, .null)] 4 (by decide +kernel) ?_
  show Fx q_TJ_countLeftOver 2 sh 4 [some (.ref c), some (.int 0), some (.int 0)] [] hp (some (.int res)) hp
  have hl := t_TJ_countLeftOver_l4 sh c hS hp  res (0, 0) _ hf hk
  have hl : Fx q_TJ_countLeftOver 2 sh 4 [some (.ref c), some (.int 0), some (.int 0)] [] hp (some (.int res)) hp := hl
  exact Fx.le hl (And.intro rfl (And.intro rfl (And.intro rfl trivial)))
abbrev P_TJ_longCovered_4 (sh : Shp) (c : Nat) (hp : HP)  (res : Int32) : (Int32 × Int32) → Prop := fun s => Fx q_TJ_longCovered 2 sh 4 [some (.ref c), some (.int s.1), some (.int s.2)] [] hp (some (.int res)) hp
set_option maxHeartbeats 4000000 in
set_option maxRecDepth 20000 in
theorem t_TJ_longCovered_l4 (sh : Shp) (c : Nat) (hS : S_TJ sh c) (hp : HP)  (res : Int32) : ∀ (s : (Int32 × Int32)) (t : Int32), f_TJ_longCovered_l4 c hp  s = some t → (fun v => v = res) t → P_TJ_longCovered_4 sh c hp  res s := by
  refine loop_ind (P_TJ_longCovered_4 sh c hp  res) (fun v => v = res) ?_
  intro s t hf hk
  obtain ⟨v1, v2⟩ := s
  replace hf : f_TJ_longCovered_b4 c hp  v1 v2 = some t := hf
  show Fx q_TJ_longCovered 2 sh 4 [some (.ref c), some (.int v1), some (.int v2)] [] hp (some (.int res)) hp
  unfold f_TJ_longCovered_b4 at hf
  refine Fx.run [(.iload_n 2, 1, 2, 0, .null), (.aload_n 0, 1, 0, 0, .null), (.getfield 26, 3, 8, 3, .ref 34), (.getfield 211, 3, 3, 2, .null)] 12 (by decide +kernel) ?_
  show isK sh c 8 ∧ isK sh (c + 34) 3 ∧ Fx q_TJ_longCovered 2 sh 12 [some (.ref c), some (.int v1), some (.int v2)] [.int (hp.1 (c + 34) 2), .int v2] hp (some (.int res)) hp
  refine ⟨hS.1, hS.2.2.2.1.1, ?_⟩
  refine Fx.icmp_ge (44) 56 15 (by decide +kernel) (fun b1 => ?_) (fun b1 => ?_)
  · replace hf := ifp b1 hf
    replace hf := mpd hf
    obtain ⟨t, hf, rfl⟩ := hf
    refine Fx.run [(.iload_n 1, 1, 1, 0, .null)] 57 (by decide +kernel) ?_
    show Fx q_TJ_longCovered 2 sh 57 [some (.ref c), some (.int v1), some (.int v2)] [.int v1] hp (some (.int res)) hp
    obtain rfl := Option.some.inj hf
    have hk : v1 = res := hk
    subst hk
    exact Fx.iret (by decide +kernel) rfl
  · replace hf := ifn b1 hf
    refine Fx.run [(.aload_n 0, 1, 0, 0, .null), (.getfield 26, 3, 8, 3, .ref 34), (.iload_n 2, 1, 2, 0, .null), (.iconst 2, 1, 0, 0, .int 2)] 21 (by decide +kernel) ?_
    show isK sh c 8 ∧ Fx q_TJ_longCovered 2 sh 21 [some (.ref c), some (.int v1), some (.int v2)] [.int 2, .int v2, .ref (c + 34)] hp (some (.int res)) hp
    refine ⟨hS.1, ?_⟩
    replace hf := bnd hf
    obtain ⟨r2, hr2, hf⟩ := hf
    refine Fx.callV (rr := (some (.int r2))) (hp1 := hp) [.int v2, .int 2] [] lk_8_218 (by decide +kernel) (t_Pa_cell sh (c + 34) (hS.2.2.2.1) hp v2 2 r2 hr2) ⟨Nat.le_of_ble_eq_true rfl, Nat.le_of_ble_eq_true rfl⟩ (hS.2.2.2.1).1 (by decide) rfl (Nat.le_of_ble_eq_true rfl) ?_
    show Fx q_TJ_longCovered 2 sh 24 [some (.ref c), some (.int v1), some (.int v2)] [.int r2] hp (some (.int res)) hp
    refine Fx.run [(.iconst (-1), 1, 0, 0, .int (-1))] 25 (by decide +kernel) ?_
    show Fx q_TJ_longCovered 2 sh 25 [some (.ref c), some (.int v1), some (.int v2)] [.int (-1), .int r2] hp (some (.int res)) hp
    refine Fx.icmp_eq (25) 50 28 (by decide +kernel) (fun b3 => ?_) (fun b3 => ?_)
    · replace hf := ifp b3 hf
      refine Fx.run [(.iinc 2 1, 3, 2, 0, .int 1)] 53 (by decide +kernel) ?_
      show Fx q_TJ_longCovered 2 sh 53 [some (.ref c), some (.int v1), some (.int (v2 + 1))] [] hp (some (.int res)) hp
      refine Fx.goto (-49) 4 (by decide +kernel) ?_
      obtain rfl := Option.some.inj hf
      have hk : Fx q_TJ_longCovered 2 sh 4 [some (.ref c), some (.int v1), some (.int (v2 + 1))] [] hp (some (.int res)) hp := hk
      exact Fx.le hk (And.intro rfl (And.intro rfl (And.intro rfl trivial)))
    · replace hf := ifn b3 hf
      refine Fx.run [(.iload_n 1, 1, 1, 0, .null), (.aload_n 0, 1, 0, 0, .null), (.getfield 26, 3, 8, 3, .ref 34), (.iload_n 2, 1, 2, 0, .null), (.iconst 1, 1, 0, 0, .int 1)] 35 (by decide +kernel) ?_
      show isK sh c 8 ∧ Fx q_TJ_longCovered 2 sh 35 [some (.ref c), some (.int v1), some (.int v2)] [.int 1, .int v2, .ref (c + 34), .int v1] hp (some (.int res)) hp
      refine ⟨hS.1, ?_⟩
      replace hf := bnd hf
      obtain ⟨r4, hr4, hf⟩ := hf
      refine Fx.callV (rr := (some (.int r4))) (hp1 := hp) [.int v2, .int 1] [.int v1] lk_8_218 (by decide +kernel) (t_Pa_cell sh (c + 34) (hS.2.2.2.1) hp v2 1 r4 hr4) ⟨Nat.le_of_ble_eq_true rfl, Nat.le_of_ble_eq_true rfl⟩ (hS.2.2.2.1).1 (by decide) rfl (Nat.le_of_ble_eq_true rfl) ?_
      show Fx q_TJ_longCovered 2 sh 38 [some (.ref c), some (.int v1), some (.int v2)] [.int r4, .int v1] hp (some (.int res)) hp
      refine Fx.run [(.aload_n 0, 1, 0, 0, .null), (.getfield 26, 3, 8, 3, .ref 34), (.iload_n 2, 1, 2, 0, .null), (.iconst 0, 1, 0, 0, .int 0)] 44 (by decide +kernel) ?_
      show isK sh c 8 ∧ Fx q_TJ_longCovered 2 sh 44 [some (.ref c), some (.int v1), some (.int v2)] [.int 0, .int v2, .ref (c + 34), .int r4, .int v1] hp (some (.int res)) hp
      refine ⟨hS.1, ?_⟩
      replace hf := bnd hf
      obtain ⟨r5, hr5, hf⟩ := hf
      refine Fx.callV (rr := (some (.int r5))) (hp1 := hp) [.int v2, .int 0] [.int r4, .int v1] lk_8_218 (by decide +kernel) (t_Pa_cell sh (c + 34) (hS.2.2.2.1) hp v2 0 r5 hr5) ⟨Nat.le_of_ble_eq_true rfl, Nat.le_of_ble_eq_true rfl⟩ (hS.2.2.2.1).1 (by decide) rfl (Nat.le_of_ble_eq_true rfl) ?_
      show Fx q_TJ_longCovered 2 sh 47 [some (.ref c), some (.int v1), some (.int v2)] [.int r5, .int r4, .int v1] hp (some (.int res)) hp
      refine Fx.run [(.isub, 1, 0, 0, .null), (.iadd, 1, 0, 0, .null), (.istore_n 1, 1, 1, 0, .null), (.iinc 2 1, 3, 2, 0, .int 1)] 53 (by decide +kernel) ?_
      show Fx q_TJ_longCovered 2 sh 53 [some (.ref c), some (.int (v1 + (r4 - r5))), some (.int (v2 + 1))] [] hp (some (.int res)) hp
      refine Fx.goto (-49) 4 (by decide +kernel) ?_
      obtain rfl := Option.some.inj hf
      have hk : Fx q_TJ_longCovered 2 sh 4 [some (.ref c), some (.int (v1 + (r4 - r5))), some (.int (v2 + 1))] [] hp (some (.int res)) hp := hk
      exact Fx.le hk (And.intro rfl (And.intro rfl (And.intro rfl trivial)))
set_option maxHeartbeats 4000000 in
set_option maxRecDepth 20000 in
theorem t_TJ_longCovered (sh : Shp) (c : Nat) (hS : S_TJ sh c) (hp : HP)  (res : Int32) (hf : f_TJ_longCovered c hp  = some res) : Ex 2 q_TJ_longCovered sh [.ref c] hp (some (.int res)) hp := by
  refine Ex.of [some (.ref c), none, none] rfl (Nat.le_of_ble_eq_true rfl) (by decide +kernel) rfl ?_
  obtain ⟨t, hk⟩ : ∃ t, t = res := ⟨res, rfl⟩
  rw [← hk] at hf
  unfold f_TJ_longCovered at hf
  refine Fx.run [(.iconst 0, 1, 0, 0, .int 0), (.istore_n 1, 1, 1, 0, .null), (.iconst 0, 1, 0, 0, .int 0), (.istore_n 2, 1, 2, 0, .null)] 4 (by decide +kernel) ?_
  show Fx q_TJ_longCovered 2 sh 4 [some (.ref c), some (.int 0), some (.int 0)] [] hp (some (.int res)) hp
  have hl := t_TJ_longCovered_l4 sh c hS hp  res (0, 0) _ hf hk
  have hl : Fx q_TJ_longCovered 2 sh 4 [some (.ref c), some (.int 0), some (.int 0)] [] hp (some (.int res)) hp := hl
  exact Fx.le hl (And.intro rfl (And.intro rfl (And.intro rfl trivial)))
set_option maxHeartbeats 4000000 in
set_option maxRecDepth 20000 in
theorem t_TJ_ofMates (sh : Shp) (c : Nat) (hS : S_TJ sh c) (hp : HP) (v1 : Int32) (v2 : Int32) (v3 : Int32) (res : (HP × Int32)) (hf : f_TJ_ofMates c hp v1 v2 v3 = some res) : Ex 6 q_TJ_ofMates sh [.ref c, .int v1, .int v2, .int v3] hp (some (.int res.2)) res.1 := by
  refine Ex.of [some (.ref c), some (.int v1), some (.int v2), some (.int v3)] rfl (Nat.le_of_ble_eq_true rfl) (by decide +kernel) rfl ?_
  obtain ⟨t, hk⟩ : ∃ t, t = res := ⟨res, rfl⟩
  rw [← hk] at hf
  unfold f_TJ_ofMates at hf
  refine Fx.run [(.iload_n 3, 1, 3, 0, .null), (.bipush 6, 2, 0, 0, .int 6)] 3 (by decide +kernel) ?_
  show Fx q_TJ_ofMates 6 sh 3 [some (.ref c), some (.int v1), some (.int v2), some (.int v3)] [.int 6, .int v3] hp (some (.int res.2)) res.1
  refine Fx.icmp_lt (9) 12 6 (by decide +kernel) (fun b1 => ?_) (fun b1 => ?_)
  · replace hf := ifp b1 hf
    refine Fx.run [(.ldc 123, 2, 0, 0, .int (-10000000))] 14 (by decide +kernel) ?_
    show Fx q_TJ_ofMates 6 sh 14 [some (.ref c), some (.int v1), some (.int v2), some (.int v3)] [.int (-10000000)] hp (some (.int res.2)) res.1
    obtain rfl := Option.some.inj hf
    have hk : (hp, (-10000000)) = res := hk
    subst hk
    exact Fx.iret (by decide +kernel) rfl
  · replace hf := ifn b1 hf
    refine Fx.run [(.iload_n 3, 1, 3, 0, .null), (.bipush 10, 2, 0, 0, .int 10)] 9 (by decide +kernel) ?_
    show Fx q_TJ_ofMates 6 sh 9 [some (.ref c), some (.int v1), some (.int v2), some (.int v3)] [.int 10, .int v3] hp (some (.int res.2)) res.1
    refine Fx.icmp_le (6) 15 12 (by decide +kernel) (fun b2 => ?_) (fun b2 => ?_)
    · replace hf := ifp b2 hf
      refine Fx.run [(.aload_n 0, 1, 0, 0, .null), (.getfield 33, 3, 8, 4, .ref 37), (.aload_n 0, 1, 0, 0, .null), (.getfield 12, 3, 8, 0, .ref 1), (.iload_n 1, 1, 1, 0, .null), (.iload_n 2, 1, 2, 0, .null)] 25 (by decide +kernel) ?_
      show isK sh c 8 ∧ isK sh c 8 ∧ Fx q_TJ_ofMates 6 sh 25 [some (.ref c), some (.int v1), some (.int v2), some (.int v3)] [.int v2, .int v1, .ref (c + 1), .ref (c + 37)] hp (some (.int res.2)) res.1
      refine ⟨hS.1, hS.1, ?_⟩
      replace hf := bnd hf
      obtain ⟨h4, hr3, hf⟩ := hf
      refine Fx.callV (rr := none) (hp1 := h4) [.ref (c + 1), .int v1, .int v2] [] lk_8_199 (by decide +kernel) (t_Ma_gather sh (c + 37) (hS.2.2.2.2.1) hp (c + 1) (hS.2.1) v1 v2 h4 hr3) ⟨Nat.le_of_ble_eq_true rfl, Nat.le_of_ble_eq_true rfl⟩ (hS.2.2.2.2.1).1 (by decide) rfl (Nat.le_of_ble_eq_true rfl) ?_
      show Fx q_TJ_ofMates 6 sh 28 [some (.ref c), some (.int v1), some (.int v2), some (.int v3)] [] h4 (some (.int res.2)) res.1
      refine Fx.run [(.iload_n 3, 1, 3, 0, .null), (.bipush 6, 2, 0, 0, .int 6)] 31 (by decide +kernel) ?_
      show Fx q_TJ_ofMates 6 sh 31 [some (.ref c), some (.int v1), some (.int v2), some (.int v3)] [.int 6, .int v3] h4 (some (.int res.2)) res.1
      refine Fx.icmp_ne (11) 42 34 (by decide +kernel) (fun b5 => ?_) (fun b5 => ?_)
      · replace hf := ifn b5 hf
        refine Fx.run [(.iload_n 3, 1, 3, 0, .null), (.bipush 7, 2, 0, 0, .int 7)] 45 (by decide +kernel) ?_
        show Fx q_TJ_ofMates 6 sh 45 [some (.ref c), some (.int v1), some (.int v2), some (.int v3)] [.int 7, .int v3] h4 (some (.int res.2)) res.1
        refine Fx.icmp_ne (11) 56 48 (by decide +kernel) (fun b6 => ?_) (fun b6 => ?_)
        · replace hf := ifn b6 hf
          refine Fx.run [(.aload_n 0, 1, 0, 0, .null), (.getfield 33, 3, 8, 4, .ref 37), (.aload_n 0, 1, 0, 0, .null), (.getfield 26, 3, 8, 3, .ref 34)] 64 (by decide +kernel) ?_
          show isK sh c 8 ∧ isK sh c 8 ∧ Fx q_TJ_ofMates 6 sh 64 [some (.ref c), some (.int v1), some (.int v2), some (.int v3)] [.ref (c + 34), .ref (c + 37)] h4 (some (.int res.2)) res.1
          refine ⟨hS.1, hS.1, ?_⟩
          replace hf := bnd hf
          obtain ⟨h8, hr7, hf⟩ := hf
          refine Fx.callV (rr := none) (hp1 := h8) [.ref (c + 34)] [] lk_8_207 (by decide +kernel) (t_Ma_layCover sh (c + 37) (hS.2.2.2.2.1) h4 (c + 34) (hS.2.2.2.1) h8 hr7) ⟨Nat.le_of_ble_eq_true rfl, Nat.le_of_ble_eq_true rfl⟩ (hS.2.2.2.2.1).1 (by decide) rfl (Nat.le_of_ble_eq_true rfl) ?_
          show Fx q_TJ_ofMates 6 sh 67 [some (.ref c), some (.int v1), some (.int v2), some (.int v3)] [] h8 (some (.int res.2)) res.1
          refine Fx.run [(.iload_n 3, 1, 3, 0, .null)] 68 (by decide +kernel) ?_
          show Fx q_TJ_ofMates 6 sh 68 [some (.ref c), some (.int v1), some (.int v2), some (.int v3)] [.int v3] h8 (some (.int res.2)) res.1
          by_cases b11 : v3 = 8
          · replace hf := ifp b11 hf
            refine Fx.swX 8 96 b11 (by decide +kernel) ?_
            refine Fx.run [(.aload_n 0, 1, 0, 0, .null), (.getfield 26, 3, 8, 3, .ref 34), (.getfield 211, 3, 3, 2, .null)] 103 (by decide +kernel) ?_
            show isK sh c 8 ∧ isK sh (c + 34) 3 ∧ Fx q_TJ_ofMates 6 sh 103 [some (.ref c), some (.int v1), some (.int v2), some (.int v3)] [.int (h8.1 (c + 34) 2)] h8 (some (.int res.2)) res.1
            refine ⟨hS.1, hS.2.2.2.1.1, ?_⟩
            obtain rfl := Option.some.inj hf
            have hk : (h8, (h8.1 (c + 34) 2)) = res := hk
            subst hk
            exact Fx.iret (by decide +kernel) rfl
          replace hf := ifn b11 hf
          by_cases b12 : v3 = 9
          · replace hf := ifp b12 hf
            refine Fx.swX 9 104 b12 (by decide +kernel) ?_
            refine Fx.run [(.aload_n 0, 1, 0, 0, .null)] 105 (by decide +kernel) ?_
            show Fx q_TJ_ofMates 6 sh 105 [some (.ref c), some (.int v1), some (.int v2), some (.int v3)] [.ref c] h8 (some (.int res.2)) res.1
            replace hf := bnd hf
            obtain ⟨r9, hr9, hf⟩ := hf
            refine Fx.callV (rr := (some (.int r9))) (hp1 := h8) [] [] lk_8_212 (by decide +kernel) (t_TJ_countLeftOver sh c (hS) h8 r9 hr9) ⟨Nat.le_of_ble_eq_true rfl, Nat.le_of_ble_eq_true rfl⟩ (hS).1 (by decide) rfl (Nat.le_of_ble_eq_true rfl) ?_
            show Fx q_TJ_ofMates 6 sh 108 [some (.ref c), some (.int v1), some (.int v2), some (.int v3)] [.int r9] h8 (some (.int res.2)) res.1
            obtain rfl := Option.some.inj hf
            have hk : (h8, r9) = res := hk
            subst hk
            exact Fx.iret (by decide +kernel) rfl
          replace hf := ifn b12 hf
          refine Fx.swD [8, 9] 109 (by decide +kernel) (List.forall_mem_cons.mpr ⟨b11, (List.forall_mem_cons.mpr ⟨b12, (fun _ h => absurd h List.not_mem_nil)⟩)⟩) ?_
          refine Fx.run [(.aload_n 0, 1, 0, 0, .null)] 110 (by decide +kernel) ?_
          show Fx q_TJ_ofMates 6 sh 110 [some (.ref c), some (.int v1), some (.int v2), some (.int v3)] [.ref c] h8 (some (.int res.2)) res.1
          replace hf := bnd hf
          obtain ⟨r10, hr10, hf⟩ := hf
          refine Fx.callV (rr := (some (.int r10))) (hp1 := h8) [] [] lk_8_215 (by decide +kernel) (t_TJ_longCovered sh c (hS) h8 r10 hr10) ⟨Nat.le_of_ble_eq_true rfl, Nat.le_of_ble_eq_true rfl⟩ (hS).1 (by decide) rfl (Nat.le_of_ble_eq_true rfl) ?_
          show Fx q_TJ_ofMates 6 sh 113 [some (.ref c), some (.int v1), some (.int v2), some (.int v3)] [.int r10] h8 (some (.int res.2)) res.1
          obtain rfl := Option.some.inj hf
          have hk : (h8, r10) = res := hk
          subst hk
          exact Fx.iret (by decide +kernel) rfl
        · replace hf := ifp b6 hf
          refine Fx.run [(.aload_n 0, 1, 0, 0, .null), (.getfield 33, 3, 8, 4, .ref 37)] 52 (by decide +kernel) ?_
          show isK sh c 8 ∧ Fx q_TJ_ofMates 6 sh 52 [some (.ref c), some (.int v1), some (.int v2), some (.int v3)] [.ref (c + 37)] h4 (some (.int res.2)) res.1
          refine ⟨hS.1, ?_⟩
          replace hf := bnd hf
          obtain ⟨r13, hr13, hf⟩ := hf
          refine Fx.callV (rr := (some (.int r13))) (hp1 := h4) [] [] lk_8_204 (by decide +kernel) (t_Ma_depth sh (c + 37) (hS.2.2.2.2.1) h4 r13 hr13) ⟨Nat.le_of_ble_eq_true rfl, Nat.le_of_ble_eq_true rfl⟩ (hS.2.2.2.2.1).1 (by decide) rfl (Nat.le_of_ble_eq_true rfl) ?_
          show Fx q_TJ_ofMates 6 sh 55 [some (.ref c), some (.int v1), some (.int v2), some (.int v3)] [.int r13] h4 (some (.int res.2)) res.1
          obtain rfl := Option.some.inj hf
          have hk : (h4, r13) = res := hk
          subst hk
          exact Fx.iret (by decide +kernel) rfl
      · replace hf := ifp b5 hf
        refine Fx.run [(.aload_n 0, 1, 0, 0, .null), (.getfield 33, 3, 8, 4, .ref 37), (.getfield 203, 3, 2, 3, .null)] 41 (by decide +kernel) ?_
        show isK sh c 8 ∧ isK sh (c + 37) 2 ∧ Fx q_TJ_ofMates 6 sh 41 [some (.ref c), some (.int v1), some (.int v2), some (.int v3)] [.int (h4.1 (c + 37) 3)] h4 (some (.int res.2)) res.1
        refine ⟨hS.1, hS.2.2.2.2.1.1, ?_⟩
        obtain rfl := Option.some.inj hf
        have hk : (h4, (h4.1 (c + 37) 3)) = res := hk
        subst hk
        exact Fx.iret (by decide +kernel) rfl
    · replace hf := ifn b2 hf
      refine Fx.run [(.ldc 123, 2, 0, 0, .int (-10000000))] 14 (by decide +kernel) ?_
      show Fx q_TJ_ofMates 6 sh 14 [some (.ref c), some (.int v1), some (.int v2), some (.int v3)] [.int (-10000000)] hp (some (.int res.2)) res.1
      obtain rfl := Option.some.inj hf
      have hk : (hp, (-10000000)) = res := hk
      subst hk
      exact Fx.iret (by decide +kernel) rfl
set_option maxHeartbeats 4000000 in
set_option maxRecDepth 20000 in
theorem t_TJ_row (sh : Shp) (c : Nat) (hS : S_TJ sh c) (hp : HP) (v1 : Int32) (v2 : Int32) (v3 : Int32) (res : (HP × Int32)) (hf : f_TJ_row c hp v1 v2 v3 = some res) : Ex 7 q_TJ_row sh [.ref c, .int v1, .int v2, .int v3] hp (some (.int res.2)) res.1 := by
  refine Ex.of [some (.ref c), some (.int v1), some (.int v2), some (.int v3), none] rfl (Nat.le_of_ble_eq_true rfl) (by decide +kernel) rfl ?_
  obtain ⟨t, hk⟩ : ∃ t, t = res := ⟨res, rfl⟩
  rw [← hk] at hf
  unfold f_TJ_row at hf
  refine Fx.run [(.aload_n 0, 1, 0, 0, .null), (.iload_n 1, 1, 1, 0, .null), (.iload_n 2, 1, 2, 0, .null)] 3 (by decide +kernel) ?_
  show Fx q_TJ_row 7 sh 3 [some (.ref c), some (.int v1), some (.int v2), some (.int v3), none] [.int v2, .int v1, .ref c] hp (some (.int res.2)) res.1
  replace hf := bnd hf
  obtain ⟨r1, hr1, hf⟩ := hf
  refine Fx.callV (rr := (some (.int r1))) (hp1 := hp) [.int v1, .int v2] [] lk_8_189 (by decide +kernel) (t_TJ_isRow sh c (hS) hp v1 v2 r1 hr1) ⟨Nat.le_of_ble_eq_true rfl, Nat.le_of_ble_eq_true rfl⟩ (hS).1 (by decide) rfl (Nat.le_of_ble_eq_true rfl) ?_
  show Fx q_TJ_row 7 sh 6 [some (.ref c), some (.int v1), some (.int v2), some (.int v3), none] [.int r1] hp (some (.int res.2)) res.1
  refine Fx.if_ne (6) 12 9 (by decide +kernel) (fun b2 => ?_) (fun b2 => ?_)
  · replace hf := ifn b2 hf
    refine Fx.run [(.aload_n 0, 1, 0, 0, .null), (.getfield 12, 3, 8, 0, .ref 1), (.iload_n 1, 1, 1, 0, .null)] 17 (by decide +kernel) ?_
    show isK sh c 8 ∧ Fx q_TJ_row 7 sh 17 [some (.ref c), some (.int v1), some (.int v2), some (.int v3), none] [.int v1, .ref (c + 1)] hp (some (.int res.2)) res.1
    refine ⟨hS.1, ?_⟩
    replace hf := bnd hf
    obtain ⟨r3, hr3, hf⟩ := hf
    refine Fx.callV (rr := (some (.ref r3))) (hp1 := hp) [.int v1] [] lk_8_95 (by decide +kernel) (t_St_rowsOf sh (c + 1) (hS.2.1) hp v1 r3 hr3) ⟨Nat.le_of_ble_eq_true rfl, Nat.le_of_ble_eq_true rfl⟩ (hS.2.1).1 (by decide) rfl (Nat.le_of_ble_eq_true rfl) ?_
    show Fx q_TJ_row 7 sh 20 [some (.ref c), some (.int v1), some (.int v2), some (.int v3), none] [.ref r3] hp (some (.int res.2)) res.1
    refine Fx.run [(.astore 4, 2, 4, 0, .null), (.iload_n 3, 1, 3, 0, .null)] 23 (by decide +kernel) ?_
    show Fx q_TJ_row 7 sh 23 [some (.ref c), some (.int v1), some (.int v2), some (.int v3), some (.ref r3)] [.int v3] hp (some (.int res.2)) res.1
    by_cases b12 : v3 = 0
    · replace hf := ifp b12 hf
      refine Fx.swX 0 60 b12 (by decide +kernel) ?_
      replace hf := gd hf
      obtain ⟨g4, hf⟩ := hf
      refine Fx.run [(.aload 4, 2, 4, 0, .null), (.getfield 99, 3, 4, 0, .ref 1), (.iload_n 2, 1, 2, 0, .null), (.iaload, 1, 40, 0, .null)] 67 (by decide +kernel) ?_
      show isK sh r3 4 ∧ (isA sh (r3 + 1) 10 40 ∧ inb v2 40) ∧ Fx q_TJ_row 7 sh 67 [some (.ref c), some (.int v1), some (.int v2), some (.int v3), some (.ref r3)] [.int (hp.1 (r3 + 1) (ix v2))] hp (some (.int res.2)) res.1
      refine ⟨(rowsOf_S hS.2.1 hr3).1, ⟨(rowsOf_S hS.2.1 hr3).2.1, g4⟩, ?_⟩
      obtain rfl := Option.some.inj hf
      have hk : (hp, (hp.1 (r3 + 1) (ix v2))) = res := hk
      subst hk
      exact Fx.iret (by decide +kernel) rfl
    replace hf := ifn b12 hf
    by_cases b13 : v3 = 1
    · replace hf := ifp b13 hf
      refine Fx.swX 1 68 b13 (by decide +kernel) ?_
      replace hf := gd hf
      obtain ⟨g5, hf⟩ := hf
      refine Fx.run [(.aload 4, 2, 4, 0, .null), (.getfield 102, 3, 4, 1, .ref 2), (.iload_n 2, 1, 2, 0, .null), (.iaload, 1, 40, 0, .null)] 75 (by decide +kernel) ?_
      show isK sh r3 4 ∧ (isA sh (r3 + 2) 10 40 ∧ inb v2 40) ∧ Fx q_TJ_row 7 sh 75 [some (.ref c), some (.int v1), some (.int v2), some (.int v3), some (.ref r3)] [.int (hp.1 (r3 + 2) (ix v2))] hp (some (.int res.2)) res.1
      refine ⟨(rowsOf_S hS.2.1 hr3).1, ⟨(rowsOf_S hS.2.1 hr3).2.2.1, g5⟩, ?_⟩
      obtain rfl := Option.some.inj hf
      have hk : (hp, (hp.1 (r3 + 2) (ix v2))) = res := hk
      subst hk
      exact Fx.iret (by decide +kernel) rfl
    replace hf := ifn b13 hf
    by_cases b14 : v3 = 2
    · replace hf := ifp b14 hf
      refine Fx.swX 2 76 b14 (by decide +kernel) ?_
      replace hf := gd hf
      obtain ⟨g6, hf⟩ := hf
      refine Fx.run [(.aload 4, 2, 4, 0, .null), (.getfield 105, 3, 4, 2, .ref 3), (.iload_n 2, 1, 2, 0, .null), (.iaload, 1, 40, 0, .null)] 83 (by decide +kernel) ?_
      show isK sh r3 4 ∧ (isA sh (r3 + 3) 10 40 ∧ inb v2 40) ∧ Fx q_TJ_row 7 sh 83 [some (.ref c), some (.int v1), some (.int v2), some (.int v3), some (.ref r3)] [.int (hp.1 (r3 + 3) (ix v2))] hp (some (.int res.2)) res.1
      refine ⟨(rowsOf_S hS.2.1 hr3).1, ⟨(rowsOf_S hS.2.1 hr3).2.2.2.1, g6⟩, ?_⟩
      obtain rfl := Option.some.inj hf
      have hk : (hp, (hp.1 (r3 + 3) (ix v2))) = res := hk
      subst hk
      exact Fx.iret (by decide +kernel) rfl
    replace hf := ifn b14 hf
    by_cases b15 : v3 = 3
    · replace hf := ifp b15 hf
      refine Fx.swX 3 84 b15 (by decide +kernel) ?_
      replace hf := gd hf
      obtain ⟨g7, hf⟩ := hf
      refine Fx.run [(.aload 4, 2, 4, 0, .null), (.getfield 108, 3, 4, 3, .ref 4), (.iload_n 2, 1, 2, 0, .null), (.iaload, 1, 40, 0, .null)] 91 (by decide +kernel) ?_
      show isK sh r3 4 ∧ (isA sh (r3 + 4) 10 40 ∧ inb v2 40) ∧ Fx q_TJ_row 7 sh 91 [some (.ref c), some (.int v1), some (.int v2), some (.int v3), some (.ref r3)] [.int (hp.1 (r3 + 4) (ix v2))] hp (some (.int res.2)) res.1
      refine ⟨(rowsOf_S hS.2.1 hr3).1, ⟨(rowsOf_S hS.2.1 hr3).2.2.2.2.1, g7⟩, ?_⟩
      obtain rfl := Option.some.inj hf
      have hk : (hp, (hp.1 (r3 + 4) (ix v2))) = res := hk
      subst hk
      exact Fx.iret (by decide +kernel) rfl
    replace hf := ifn b15 hf
    by_cases b16 : v3 = 4
    · replace hf := ifp b16 hf
      refine Fx.swX 4 92 b16 (by decide +kernel) ?_
      replace hf := gd hf
      obtain ⟨g8, hf⟩ := hf
      refine Fx.run [(.aload 4, 2, 4, 0, .null), (.getfield 119, 3, 4, 4, .ref 5), (.iload_n 2, 1, 2, 0, .null), (.iaload, 1, 40, 0, .null)] 99 (by decide +kernel) ?_
      show isK sh r3 4 ∧ (isA sh (r3 + 5) 10 40 ∧ inb v2 40) ∧ Fx q_TJ_row 7 sh 99 [some (.ref c), some (.int v1), some (.int v2), some (.int v3), some (.ref r3)] [.int (hp.1 (r3 + 5) (ix v2))] hp (some (.int res.2)) res.1
      refine ⟨(rowsOf_S hS.2.1 hr3).1, ⟨(rowsOf_S hS.2.1 hr3).2.2.2.2.2, g8⟩, ?_⟩
      obtain rfl := Option.some.inj hf
      have hk : (hp, (hp.1 (r3 + 5) (ix v2))) = res := hk
      subst hk
      exact Fx.iret (by decide +kernel) rfl
    replace hf := ifn b16 hf
    by_cases b17 : v3 = 5
    · replace hf := ifp b17 hf
      refine Fx.swX 5 100 b17 (by decide +kernel) ?_
      refine Fx.run [(.aload 4, 2, 4, 0, .null), (.iload_n 2, 1, 2, 0, .null)] 103 (by decide +kernel) ?_
      show Fx q_TJ_row 7 sh 103 [some (.ref c), some (.int v1), some (.int v2), some (.int v3), some (.ref r3)] [.int v2, .ref r3] hp (some (.int res.2)) res.1
      replace hf := bnd hf
      obtain ⟨r9, hr9, hf⟩ := hf
      refine Fx.callV (rr := (some (.int r9))) (hp1 := hp) [.int v2] [] lk_8_192 (by decide +kernel) (t_Ro_longOf sh r3 ((rowsOf_S hS.2.1 hr3)) hp v2 r9 hr9) ⟨Nat.le_of_ble_eq_true rfl, Nat.le_of_ble_eq_true rfl⟩ ((rowsOf_S hS.2.1 hr3)).1 (by decide) rfl (Nat.le_of_ble_eq_true rfl) ?_
      show Fx q_TJ_row 7 sh 106 [some (.ref c), some (.int v1), some (.int v2), some (.int v3), some (.ref r3)] [.int r9] hp (some (.int res.2)) res.1
      obtain rfl := Option.some.inj hf
      have hk : (hp, r9) = res := hk
      subst hk
      exact Fx.iret (by decide +kernel) rfl
    replace hf := ifn b17 hf
    refine Fx.swD [0, 1, 2, 3, 4, 5] 107 (by decide +kernel) (List.forall_mem_cons.mpr ⟨b12, (List.forall_mem_cons.mpr ⟨b13, (List.forall_mem_cons.mpr ⟨b14, (List.forall_mem_cons.mpr ⟨b15, (List.forall_mem_cons.mpr ⟨b16, (List.forall_mem_cons.mpr ⟨b17, (fun _ h => absurd h List.not_mem_nil)⟩)⟩)⟩)⟩)⟩)⟩) ?_
    refine Fx.run [(.aload_n 0, 1, 0, 0, .null), (.iload_n 1, 1, 1, 0, .null), (.iload_n 2, 1, 2, 0, .null), (.iload_n 3, 1, 3, 0, .null)] 111 (by decide +kernel) ?_
    show Fx q_TJ_row 7 sh 111 [some (.ref c), some (.int v1), some (.int v2), some (.int v3), some (.ref r3)] [.int v3, .int v2, .int v1, .ref c] hp (some (.int res.2)) res.1
    replace hf := bnd hf
    obtain ⟨⟨h11, r10⟩, hr10, hf⟩ := hf
    dsimp only at hf
    refine Fx.callV (rr := (some (.int r10))) (hp1 := h11) [.int v1, .int v2, .int v3] [] lk_8_195 (by decide +kernel) (t_TJ_ofMates sh c (hS) hp v1 v2 v3 (h11, r10) hr10) ⟨Nat.le_of_ble_eq_true rfl, Nat.le_of_ble_eq_true rfl⟩ (hS).1 (by decide) rfl (Nat.le_of_ble_eq_true rfl) ?_
    show Fx q_TJ_row 7 sh 114 [some (.ref c), some (.int v1), some (.int v2), some (.int v3), some (.ref r3)] [.int r10] h11 (some (.int res.2)) res.1
    obtain rfl := Option.some.inj hf
    have hk : (h11, r10) = res := hk
    subst hk
    exact Fx.iret (by decide +kernel) rfl
  · replace hf := ifp b2 hf
    refine Fx.run [(.ldc 123, 2, 0, 0, .int (-10000000))] 11 (by decide +kernel) ?_
    show Fx q_TJ_row 7 sh 11 [some (.ref c), some (.int v1), some (.int v2), some (.int v3), none] [.int (-10000000)] hp (some (.int res.2)) res.1
    obtain rfl := Option.some.inj hf
    have hk : (hp, (-10000000)) = res := hk
    subst hk
    exact Fx.iret (by decide +kernel) rfl
set_option maxHeartbeats 4000000 in
set_option maxRecDepth 20000 in
theorem t_TJ_kind (sh : Shp) (c : Nat) (hS : S_TJ sh c) (hp : HP) (v1 : Int32) (v2 : Int32) (v3 : Int32) (v4 : Int32) (res : Int32) (hf : f_TJ_kind c hp v1 v2 v3 v4 = some res) : Ex 4 q_TJ_kind sh [.ref c, .int v1, .int v2, .int v3, .int v4] hp (some (.int res)) hp := by
  refine Ex.of [some (.ref c), some (.int v1), some (.int v2), some (.int v3), some (.int v4)] rfl (Nat.le_of_ble_eq_true rfl) (by decide +kernel) rfl ?_
  obtain ⟨t, hk⟩ : ∃ t, t = res := ⟨res, rfl⟩
  rw [← hk] at hf
  unfold f_TJ_kind at hf
  refine Fx.run [(.aload_n 0, 1, 0, 0, .null), (.iload_n 1, 1, 1, 0, .null), (.iload_n 2, 1, 2, 0, .null)] 3 (by decide +kernel) ?_
  show Fx q_TJ_kind 4 sh 3 [some (.ref c), some (.int v1), some (.int v2), some (.int v3), some (.int v4)] [.int v2, .int v1, .ref c] hp (some (.int res)) hp
  replace hf := bnd hf
  obtain ⟨r1, hr1, hf⟩ := hf
  refine Fx.callV (rr := (some (.int r1))) (hp1 := hp) [.int v1, .int v2] [] lk_8_189 (by decide +kernel) (t_TJ_isRow sh c (hS) hp v1 v2 r1 hr1) ⟨Nat.le_of_ble_eq_true rfl, Nat.le_of_ble_eq_true rfl⟩ (hS).1 (by decide) rfl (Nat.le_of_ble_eq_true rfl) ?_
  show Fx q_TJ_kind 4 sh 6 [some (.ref c), some (.int v1), some (.int v2), some (.int v3), some (.int v4)] [.int r1] hp (some (.int res)) hp
  refine Fx.if_eq (13) 19 9 (by decide +kernel) (fun b2 => ?_) (fun b2 => ?_)
  · replace hf := ifp b2 hf
    refine Fx.run [(.iconst (-1), 1, 0, 0, .int (-1))] 20 (by decide +kernel) ?_
    show Fx q_TJ_kind 4 sh 20 [some (.ref c), some (.int v1), some (.int v2), some (.int v3), some (.int v4)] [.int (-1)] hp (some (.int res)) hp
    obtain rfl := Option.some.inj hf
    have hk : (-1) = res := hk
    subst hk
    exact Fx.iret (by decide +kernel) rfl
  · replace hf := ifn b2 hf
    refine Fx.run [(.aload_n 0, 1, 0, 0, .null), (.iload_n 3, 1, 3, 0, .null), (.iload 4, 2, 4, 0, .null)] 13 (by decide +kernel) ?_
    show Fx q_TJ_kind 4 sh 13 [some (.ref c), some (.int v1), some (.int v2), some (.int v3), some (.int v4)] [.int v4, .int v3, .ref c] hp (some (.int res)) hp
    replace hf := bnd hf
    obtain ⟨r3, hr3, hf⟩ := hf
    refine Fx.callV (rr := (some (.int r3))) (hp1 := hp) [.int v3, .int v4] [] lk_8_189 (by decide +kernel) (t_TJ_isRow sh c (hS) hp v3 v4 r3 hr3) ⟨Nat.le_of_ble_eq_true rfl, Nat.le_of_ble_eq_true rfl⟩ (hS).1 (by decide) rfl (Nat.le_of_ble_eq_true rfl) ?_
    show Fx q_TJ_kind 4 sh 16 [some (.ref c), some (.int v1), some (.int v2), some (.int v3), some (.int v4)] [.int r3] hp (some (.int res)) hp
    refine Fx.if_ne (5) 21 19 (by decide +kernel) (fun b4 => ?_) (fun b4 => ?_)
    · replace hf := ifn b4 hf
      refine Fx.run [(.aload_n 0, 1, 0, 0, .null), (.getfield 12, 3, 8, 0, .ref 1), (.iload_n 1, 1, 1, 0, .null), (.iload_n 2, 1, 2, 0, .null), (.iload_n 3, 1, 3, 0, .null), (.iload 4, 2, 4, 0, .null)] 30 (by decide +kernel) ?_
      show isK sh c 8 ∧ Fx q_TJ_kind 4 sh 30 [some (.ref c), some (.int v1), some (.int v2), some (.int v3), some (.int v4)] [.int v4, .int v3, .int v2, .int v1, .ref (c + 1)] hp (some (.int res)) hp
      refine ⟨hS.1, ?_⟩
      replace hf := bnd hf
      obtain ⟨r5, hr5, hf⟩ := hf
      refine Fx.callV (rr := (some (.int r5))) (hp1 := hp) [.int v1, .int v2, .int v3, .int v4] [] lk_8_153 (by decide +kernel) (t_St_kindOf sh (c + 1) (hS.2.1) hp v1 v2 v3 v4 r5 hr5) ⟨Nat.le_of_ble_eq_true rfl, Nat.le_of_ble_eq_true rfl⟩ (hS.2.1).1 (by decide) rfl (Nat.le_of_ble_eq_true rfl) ?_
      show Fx q_TJ_kind 4 sh 33 [some (.ref c), some (.int v1), some (.int v2), some (.int v3), some (.int v4)] [.int r5] hp (some (.int res)) hp
      obtain rfl := Option.some.inj hf
      have hk : r5 = res := hk
      subst hk
      exact Fx.iret (by decide +kernel) rfl
    · replace hf := ifp b4 hf
      refine Fx.run [(.iconst (-1), 1, 0, 0, .int (-1))] 20 (by decide +kernel) ?_
      show Fx q_TJ_kind 4 sh 20 [some (.ref c), some (.int v1), some (.int v2), some (.int v3), some (.int v4)] [.int (-1)] hp (some (.int res)) hp
      obtain rfl := Option.some.inj hf
      have hk : (-1) = res := hk
      subst hk
      exact Fx.iret (by decide +kernel) rfl
set_option maxHeartbeats 4000000 in
set_option maxRecDepth 20000 in
theorem t_Pa_answer (sh : Shp) (c : Nat) (hS : S_Pa sh c) (hp : HP) (v1 : Int32) (v2 : Int32) (v3 : Int32) (res : Int32) (hf : f_Pa_answer c hp v1 v2 v3 = some res) : Ex 2 q_Pa_answer sh [.ref c, .int v1, .int v2, .int v3] hp (some (.int res)) hp := by
  refine Ex.of [some (.ref c), some (.int v1), some (.int v2), some (.int v3)] rfl (Nat.le_of_ble_eq_true rfl) (by decide +kernel) rfl ?_
  obtain ⟨t, hk⟩ : ∃ t, t = res := ⟨res, rfl⟩
  rw [← hk] at hf
  unfold f_Pa_answer at hf
  refine Fx.run [(.iload_n 2, 1, 2, 0, .null), (.iload_n 3, 1, 3, 0, .null)] 2 (by decide +kernel) ?_
  show Fx q_Pa_answer 2 sh 2 [some (.ref c), some (.int v1), some (.int v2), some (.int v3)] [.int v3, .int v2] hp (some (.int res)) hp
  refine Fx.icmp_ge (12) 14 5 (by decide +kernel) (fun b1 => ?_) (fun b1 => ?_)
  · replace hf := ifp b1 hf
    refine Fx.run [(.ldc 22, 2, 0, 0, .int (-10000000))] 16 (by decide +kernel) ?_
    show Fx q_Pa_answer 2 sh 16 [some (.ref c), some (.int v1), some (.int v2), some (.int v3)] [.int (-10000000)] hp (some (.int res)) hp
    obtain rfl := Option.some.inj hf
    have hk : (-10000000) = res := hk
    subst hk
    exact Fx.iret (by decide +kernel) rfl
  · replace hf := ifn b1 hf
    refine Fx.run [(.aload_n 0, 1, 0, 0, .null), (.iload_n 1, 1, 1, 0, .null), (.iload_n 2, 1, 2, 0, .null)] 8 (by decide +kernel) ?_
    show Fx q_Pa_answer 2 sh 8 [some (.ref c), some (.int v1), some (.int v2), some (.int v3)] [.int v2, .int v1, .ref c] hp (some (.int res)) hp
    replace hf := bnd hf
    obtain ⟨r2, hr2, hf⟩ := hf
    refine Fx.callV (rr := (some (.int r2))) (hp1 := hp) [.int v1, .int v2] [] lk_3_23 (by decide +kernel) (t_Pa_cell sh c (hS) hp v1 v2 r2 hr2) ⟨Nat.le_of_ble_eq_true rfl, Nat.le_of_ble_eq_true rfl⟩ (hS).1 (by decide) rfl (Nat.le_of_ble_eq_true rfl) ?_
    show Fx q_Pa_answer 2 sh 11 [some (.ref c), some (.int v1), some (.int v2), some (.int v3)] [.int r2] hp (some (.int res)) hp
    refine Fx.goto (5) 16 (by decide +kernel) ?_
    obtain rfl := Option.some.inj hf
    have hk : r2 = res := hk
    subst hk
    exact Fx.iret (by decide +kernel) rfl
set_option maxHeartbeats 4000000 in
set_option maxRecDepth 20000 in
theorem t_TJ_piece (sh : Shp) (c : Nat) (hS : S_TJ sh c) (hp : HP) (v1 : Int32) (v2 : Int32) (v3 : Int32) (v4 : Int32) (res : (HP × Int32)) (hf : f_TJ_piece c hp v1 v2 v3 v4 = some res) : Ex 6 q_TJ_piece sh [.ref c, .int v1, .int v2, .int v3, .int v4] hp (some (.int res.2)) res.1 := by
  refine Ex.of [some (.ref c), some (.int v1), some (.int v2), some (.int v3), some (.int v4)] rfl (Nat.le_of_ble_eq_true rfl) (by decide +kernel) rfl ?_
  obtain ⟨t, hk⟩ : ∃ t, t = res := ⟨res, rfl⟩
  rw [← hk] at hf
  unfold f_TJ_piece at hf
  refine Fx.run [(.aload_n 0, 1, 0, 0, .null), (.iload_n 1, 1, 1, 0, .null), (.iload_n 2, 1, 2, 0, .null)] 3 (by decide +kernel) ?_
  show Fx q_TJ_piece 6 sh 3 [some (.ref c), some (.int v1), some (.int v2), some (.int v3), some (.int v4)] [.int v2, .int v1, .ref c] hp (some (.int res.2)) res.1
  replace hf := bnd hf
  obtain ⟨r1, hr1, hf⟩ := hf
  refine Fx.callV (rr := (some (.int r1))) (hp1 := hp) [.int v1, .int v2] [] lk_8_189 (by decide +kernel) (t_TJ_isRow sh c (hS) hp v1 v2 r1 hr1) ⟨Nat.le_of_ble_eq_true rfl, Nat.le_of_ble_eq_true rfl⟩ (hS).1 (by decide) rfl (Nat.le_of_ble_eq_true rfl) ?_
  show Fx q_TJ_piece 6 sh 6 [some (.ref c), some (.int v1), some (.int v2), some (.int v3), some (.int v4)] [.int r1] hp (some (.int res.2)) res.1
  refine Fx.if_ne (6) 12 9 (by decide +kernel) (fun b2 => ?_) (fun b2 => ?_)
  · replace hf := ifn b2 hf
    refine Fx.run [(.aload_n 0, 1, 0, 0, .null), (.getfield 33, 3, 8, 4, .ref 37), (.aload_n 0, 1, 0, 0, .null), (.getfield 12, 3, 8, 0, .ref 1), (.iload_n 1, 1, 1, 0, .null), (.iload_n 2, 1, 2, 0, .null)] 22 (by decide +kernel) ?_
    show isK sh c 8 ∧ isK sh c 8 ∧ Fx q_TJ_piece 6 sh 22 [some (.ref c), some (.int v1), some (.int v2), some (.int v3), some (.int v4)] [.int v2, .int v1, .ref (c + 1), .ref (c + 37)] hp (some (.int res.2)) res.1
    refine ⟨hS.1, hS.1, ?_⟩
    replace hf := bnd hf
    obtain ⟨h4, hr3, hf⟩ := hf
    refine Fx.callV (rr := none) (hp1 := h4) [.ref (c + 1), .int v1, .int v2] [] lk_8_199 (by decide +kernel) (t_Ma_gather sh (c + 37) (hS.2.2.2.2.1) hp (c + 1) (hS.2.1) v1 v2 h4 hr3) ⟨Nat.le_of_ble_eq_true rfl, Nat.le_of_ble_eq_true rfl⟩ (hS.2.2.2.2.1).1 (by decide) rfl (Nat.le_of_ble_eq_true rfl) ?_
    show Fx q_TJ_piece 6 sh 25 [some (.ref c), some (.int v1), some (.int v2), some (.int v3), some (.int v4)] [] h4 (some (.int res.2)) res.1
    refine Fx.run [(.aload_n 0, 1, 0, 0, .null), (.getfield 33, 3, 8, 4, .ref 37), (.aload_n 0, 1, 0, 0, .null), (.getfield 26, 3, 8, 3, .ref 34)] 33 (by decide +kernel) ?_
    show isK sh c 8 ∧ isK sh c 8 ∧ Fx q_TJ_piece 6 sh 33 [some (.ref c), some (.int v1), some (.int v2), some (.int v3), some (.int v4)] [.ref (c + 34), .ref (c + 37)] h4 (some (.int res.2)) res.1
    refine ⟨hS.1, hS.1, ?_⟩
    replace hf := bnd hf
    obtain ⟨h6, hr5, hf⟩ := hf
    refine Fx.callV (rr := none) (hp1 := h6) [.ref (c + 34)] [] lk_8_207 (by decide +kernel) (t_Ma_layCover sh (c + 37) (hS.2.2.2.2.1) h4 (c + 34) (hS.2.2.2.1) h6 hr5) ⟨Nat.le_of_ble_eq_true rfl, Nat.le_of_ble_eq_true rfl⟩ (hS.2.2.2.2.1).1 (by decide) rfl (Nat.le_of_ble_eq_true rfl) ?_
    show Fx q_TJ_piece 6 sh 36 [some (.ref c), some (.int v1), some (.int v2), some (.int v3), some (.int v4)] [] h6 (some (.int res.2)) res.1
    refine Fx.run [(.aload_n 0, 1, 0, 0, .null), (.getfield 26, 3, 8, 3, .ref 34), (.iload_n 3, 1, 3, 0, .null), (.iload 4, 2, 4, 0, .null), (.iconst 3, 1, 0, 0, .int 3)] 44 (by decide +kernel) ?_
    show isK sh c 8 ∧ Fx q_TJ_piece 6 sh 44 [some (.ref c), some (.int v1), some (.int v2), some (.int v3), some (.int v4)] [.int 3, .int v4, .int v3, .ref (c + 34)] h6 (some (.int res.2)) res.1
    refine ⟨hS.1, ?_⟩
    replace hf := bnd hf
    obtain ⟨r7, hr7, hf⟩ := hf
    refine Fx.callV (rr := (some (.int r7))) (hp1 := h6) [.int v3, .int v4, .int 3] [] lk_8_221 (by decide +kernel) (t_Pa_answer sh (c + 34) (hS.2.2.2.1) h6 v3 v4 3 r7 hr7) ⟨Nat.le_of_ble_eq_true rfl, Nat.le_of_ble_eq_true rfl⟩ (hS.2.2.2.1).1 (by decide) rfl (Nat.le_of_ble_eq_true rfl) ?_
    show Fx q_TJ_piece 6 sh 47 [some (.ref c), some (.int v1), some (.int v2), some (.int v3), some (.int v4)] [.int r7] h6 (some (.int res.2)) res.1
    obtain rfl := Option.some.inj hf
    have hk : (h6, r7) = res := hk
    subst hk
    exact Fx.iret (by decide +kernel) rfl
  · replace hf := ifp b2 hf
    refine Fx.run [(.ldc 123, 2, 0, 0, .int (-10000000))] 11 (by decide +kernel) ?_
    show Fx q_TJ_piece 6 sh 11 [some (.ref c), some (.int v1), some (.int v2), some (.int v3), some (.int v4)] [.int (-10000000)] hp (some (.int res.2)) res.1
    obtain rfl := Option.some.inj hf
    have hk : (hp, (-10000000)) = res := hk
    subst hk
    exact Fx.iret (by decide +kernel) rfl
abbrev P_TJ_leftOver_25 (sh : Shp) (c : Nat) (hp : HP) (v2 : Int32) (v3 : Int32) (res : Int32) : (Int32 × Int32) → Prop := fun s => Fx q_TJ_leftOver 2 sh 25 [some (.ref c), none, some (.int v2), some (.int v3), some (.int s.1), some (.int s.2)] [] hp (some (.int res)) hp
set_option maxHeartbeats 4000000 in
set_option maxRecDepth 20000 in
theorem t_TJ_leftOver_l25 (sh : Shp) (c : Nat) (hS : S_TJ sh c) (hp : HP) (v2 : Int32) (v3 : Int32) (res : Int32) : ∀ (s : (Int32 × Int32)) (t : Int32), f_TJ_leftOver_l25 c hp v2 v3 s = some t → (fun v => v = res) t → P_TJ_leftOver_25 sh c hp v2 v3 res s := by
  refine loop_ind (P_TJ_leftOver_25 sh c hp v2 v3 res) (fun v => v = res) ?_
  intro s t hf hk
  obtain ⟨v4, v5⟩ := s
  replace hf : f_TJ_leftOver_b25 c hp v2 v3 v4 v5 = some t := hf
  show Fx q_TJ_leftOver 2 sh 25 [some (.ref c), none, some (.int v2), some (.int v3), some (.int v4), some (.int v5)] [] hp (some (.int res)) hp
  unfold f_TJ_leftOver_b25 at hf
  refine Fx.run [(.iload 5, 2, 5, 0, .null), (.aload_n 0, 1, 0, 0, .null), (.getfield 26, 3, 8, 3, .ref 34), (.getfield 211, 3, 3, 2, .null)] 34 (by decide +kernel) ?_
  show isK sh c 8 ∧ isK sh (c + 34) 3 ∧ Fx q_TJ_leftOver 2 sh 34 [some (.ref c), none, some (.int v2), some (.int v3), some (.int v4), some (.int v5)] [.int (hp.1 (c + 34) 2), .int v5] hp (some (.int res)) hp
  refine ⟨hS.1, hS.2.2.2.1.1, ?_⟩
  refine Fx.icmp_ge (45) 79 37 (by decide +kernel) (fun b3 => ?_) (fun b3 => ?_)
  · replace hf := ifp b3 hf
    replace hf := mpd hf
    obtain ⟨t, hf, rfl⟩ := hf
    refine Fx.run [(.ldc 123, 2, 0, 0, .int (-10000000))] 81 (by decide +kernel) ?_
    show Fx q_TJ_leftOver 2 sh 81 [some (.ref c), none, some (.int v2), some (.int v3), some (.int v4), some (.int v5)] [.int (-10000000)] hp (some (.int res)) hp
    obtain rfl := Option.some.inj hf
    have hk : (-10000000) = res := hk
    subst hk
    exact Fx.iret (by decide +kernel) rfl
  · replace hf := ifn b3 hf
    refine Fx.run [(.aload_n 0, 1, 0, 0, .null), (.getfield 26, 3, 8, 3, .ref 34), (.iload 5, 2, 5, 0, .null), (.iconst 2, 1, 0, 0, .int 2)] 44 (by decide +kernel) ?_
    show isK sh c 8 ∧ Fx q_TJ_leftOver 2 sh 44 [some (.ref c), none, some (.int v2), some (.int v3), some (.int v4), some (.int v5)] [.int 2, .int v5, .ref (c + 34)] hp (some (.int res)) hp
    refine ⟨hS.1, ?_⟩
    replace hf := bnd hf
    obtain ⟨r4, hr4, hf⟩ := hf
    refine Fx.callV (rr := (some (.int r4))) (hp1 := hp) [.int v5, .int 2] [] lk_8_218 (by decide +kernel) (t_Pa_cell sh (c + 34) (hS.2.2.2.1) hp v5 2 r4 hr4) ⟨Nat.le_of_ble_eq_true rfl, Nat.le_of_ble_eq_true rfl⟩ (hS.2.2.2.1).1 (by decide) rfl (Nat.le_of_ble_eq_true rfl) ?_
    show Fx q_TJ_leftOver 2 sh 47 [some (.ref c), none, some (.int v2), some (.int v3), some (.int v4), some (.int v5)] [.int r4] hp (some (.int res)) hp
    refine Fx.run [(.iconst (-1), 1, 0, 0, .int (-1))] 48 (by decide +kernel) ?_
    show Fx q_TJ_leftOver 2 sh 48 [some (.ref c), none, some (.int v2), some (.int v3), some (.int v4), some (.int v5)] [.int (-1), .int r4] hp (some (.int res)) hp
    refine Fx.icmp_ne (25) 73 51 (by decide +kernel) (fun b5 => ?_) (fun b5 => ?_)
    · replace hf := ifn b5 hf
      refine Fx.run [(.iinc 5 1, 3, 5, 0, .int 1)] 76 (by decide +kernel) ?_
      show Fx q_TJ_leftOver 2 sh 76 [some (.ref c), none, some (.int v2), some (.int v3), some (.int v4), some (.int (v5 + 1))] [] hp (some (.int res)) hp
      refine Fx.goto (-51) 25 (by decide +kernel) ?_
      obtain rfl := Option.some.inj hf
      have hk : Fx q_TJ_leftOver 2 sh 25 [some (.ref c), none, some (.int v2), some (.int v3), some (.int v4), some (.int (v5 + 1))] [] hp (some (.int res)) hp := hk
      exact Fx.le hk (And.intro rfl (And.intro rfl (And.intro rfl (And.intro rfl (And.intro rfl trivial)))))
    · replace hf := ifp b5 hf
      refine Fx.run [(.iload 4, 2, 4, 0, .null), (.iload_n 2, 1, 2, 0, .null)] 54 (by decide +kernel) ?_
      show Fx q_TJ_leftOver 2 sh 54 [some (.ref c), none, some (.int v2), some (.int v3), some (.int v4), some (.int v5)] [.int v2, .int v4] hp (some (.int res)) hp
      refine Fx.icmp_ne (16) 70 57 (by decide +kernel) (fun b6 => ?_) (fun b6 => ?_)
      · replace hf := ifn b6 hf
        refine Fx.run [(.iinc 4 1, 3, 4, 0, .int 1), (.iinc 5 1, 3, 5, 0, .int 1)] 76 (by decide +kernel) ?_
        show Fx q_TJ_leftOver 2 sh 76 [some (.ref c), none, some (.int v2), some (.int v3), some (.int (v4 + 1)), some (.int (v5 + 1))] [] hp (some (.int res)) hp
        refine Fx.goto (-51) 25 (by decide +kernel) ?_
        obtain rfl := Option.some.inj hf
        have hk : Fx q_TJ_leftOver 2 sh 25 [some (.ref c), none, some (.int v2), some (.int v3), some (.int (v4 + 1)), some (.int (v5 + 1))] [] hp (some (.int res)) hp := hk
        exact Fx.le hk (And.intro rfl (And.intro rfl (And.intro rfl (And.intro rfl (And.intro rfl trivial)))))
      · replace hf := ifp b6 hf
        replace hf := mpd hf
        obtain ⟨t, hf, rfl⟩ := hf
        refine Fx.run [(.aload_n 0, 1, 0, 0, .null), (.getfield 26, 3, 8, 3, .ref 34), (.iload 5, 2, 5, 0, .null), (.iload_n 3, 1, 3, 0, .null), (.iconst 1, 1, 0, 0, .int 1), (.isub, 1, 0, 0, .null)] 66 (by decide +kernel) ?_
        show isK sh c 8 ∧ Fx q_TJ_leftOver 2 sh 66 [some (.ref c), none, some (.int v2), some (.int v3), some (.int v4), some (.int v5)] [.int (v3 - 1), .int v5, .ref (c + 34)] hp (some (.int res)) hp
        refine ⟨hS.1, ?_⟩
        replace hf := bnd hf
        obtain ⟨r7, hr7, hf⟩ := hf
        refine Fx.callV (rr := (some (.int r7))) (hp1 := hp) [.int v5, .int (v3 - 1)] [] lk_8_218 (by decide +kernel) (t_Pa_cell sh (c + 34) (hS.2.2.2.1) hp v5 (v3 - 1) r7 hr7) ⟨Nat.le_of_ble_eq_true rfl, Nat.le_of_ble_eq_true rfl⟩ (hS.2.2.2.1).1 (by decide) rfl (Nat.le_of_ble_eq_true rfl) ?_
        show Fx q_TJ_leftOver 2 sh 69 [some (.ref c), none, some (.int v2), some (.int v3), some (.int v4), some (.int v5)] [.int r7] hp (some (.int res)) hp
        obtain rfl := Option.some.inj hf
        have hk : r7 = res := hk
        subst hk
        exact Fx.iret (by decide +kernel) rfl
set_option maxHeartbeats 4000000 in
set_option maxRecDepth 20000 in
theorem t_TJ_leftOver (sh : Shp) (c : Nat) (hS : S_TJ sh c) (hp : HP) (v1 : Int32) (v2 : Int32) (v3 : Int32) (res : Int32) (hf : f_TJ_leftOver c hp v1 v2 v3 = some res) : Ex 2 q_TJ_leftOver sh [.ref c, .int v1, .int v2, .int v3] hp (some (.int res)) hp := by
  refine Ex.of [some (.ref c), some (.int v1), some (.int v2), some (.int v3), none, none] rfl (Nat.le_of_ble_eq_true rfl) (by decide +kernel) rfl ?_
  obtain ⟨t, hk⟩ : ∃ t, t = res := ⟨res, rfl⟩
  rw [← hk] at hf
  unfold f_TJ_leftOver at hf
  refine Fx.run [(.iload_n 3, 1, 3, 0, .null)] 1 (by decide +kernel) ?_
  show Fx q_TJ_leftOver 2 sh 1 [some (.ref c), some (.int v1), some (.int v2), some (.int v3), none, none] [.int v3] hp (some (.int res)) hp
  refine Fx.if_ne (5) 6 4 (by decide +kernel) (fun b1 => ?_) (fun b1 => ?_)
  · replace hf := ifn b1 hf
    refine Fx.run [(.iload_n 3, 1, 3, 0, .null), (.iconst 1, 1, 0, 0, .int 1)] 8 (by decide +kernel) ?_
    show Fx q_TJ_leftOver 2 sh 8 [some (.ref c), some (.int v1), some (.int v2), some (.int v3), none, none] [.int 1, .int v3] hp (some (.int res)) hp
    refine Fx.icmp_eq (11) 19 11 (by decide +kernel) (fun b2 => ?_) (fun b2 => ?_)
    · replace hf := ifp b2 hf
      refine Fx.run [(.iconst 0, 1, 0, 0, .int 0), (.istore 4, 2, 4, 0, .null), (.iconst 0, 1, 0, 0, .int 0), (.istore 5, 2, 5, 0, .null)] 25 (by decide +kernel) ?_
      show Fx q_TJ_leftOver 2 sh 25 [some (.ref c), some (.int v1), some (.int v2), some (.int v3), some (.int 0), some (.int 0)] [] hp (some (.int res)) hp
      have hl := t_TJ_leftOver_l25 sh c hS hp v2 v3 res (0, 0) _ hf hk
      have hl : Fx q_TJ_leftOver 2 sh 25 [some (.ref c), none, some (.int v2), some (.int v3), some (.int 0), some (.int 0)] [] hp (some (.int res)) hp := hl
      exact Fx.le hl (And.intro rfl (And.intro rfl (And.intro rfl (And.intro rfl (And.intro rfl trivial)))))
    · replace hf := ifn b2 hf
      refine Fx.run [(.iload_n 3, 1, 3, 0, .null), (.iconst 2, 1, 0, 0, .int 2)] 13 (by decide +kernel) ?_
      show Fx q_TJ_leftOver 2 sh 13 [some (.ref c), some (.int v1), some (.int v2), some (.int v3), none, none] [.int 2, .int v3] hp (some (.int res)) hp
      refine Fx.icmp_eq (6) 19 16 (by decide +kernel) (fun b8 => ?_) (fun b8 => ?_)
      · replace hf := ifp b8 hf
        refine Fx.run [(.iconst 0, 1, 0, 0, .int 0), (.istore 4, 2, 4, 0, .null), (.iconst 0, 1, 0, 0, .int 0), (.istore 5, 2, 5, 0, .null)] 25 (by decide +kernel) ?_
        show Fx q_TJ_leftOver 2 sh 25 [some (.ref c), some (.int v1), some (.int v2), some (.int v3), some (.int 0), some (.int 0)] [] hp (some (.int res)) hp
        have hl := t_TJ_leftOver_l25 sh c hS hp v2 v3 res (0, 0) _ hf hk
        have hl : Fx q_TJ_leftOver 2 sh 25 [some (.ref c), none, some (.int v2), some (.int v3), some (.int 0), some (.int 0)] [] hp (some (.int res)) hp := hl
        exact Fx.le hl (And.intro rfl (And.intro rfl (And.intro rfl (And.intro rfl (And.intro rfl trivial)))))
      · replace hf := ifn b8 hf
        refine Fx.run [(.ldc 123, 2, 0, 0, .int (-10000000))] 18 (by decide +kernel) ?_
        show Fx q_TJ_leftOver 2 sh 18 [some (.ref c), some (.int v1), some (.int v2), some (.int v3), none, none] [.int (-10000000)] hp (some (.int res)) hp
        obtain rfl := Option.some.inj hf
        have hk : (-10000000) = res := hk
        subst hk
        exact Fx.iret (by decide +kernel) rfl
  · replace hf := ifp b1 hf
    refine Fx.run [(.iload_n 1, 1, 1, 0, .null)] 5 (by decide +kernel) ?_
    show Fx q_TJ_leftOver 2 sh 5 [some (.ref c), some (.int v1), some (.int v2), some (.int v3), none, none] [.int v1] hp (some (.int res)) hp
    obtain rfl := Option.some.inj hf
    have hk : v1 = res := hk
    subst hk
    exact Fx.iret (by decide +kernel) rfl
abbrev P_TJ_left_29 (sh : Shp) (c : Nat) (v1 : Int32) (v2 : Int32) (v3 : Int32) (v5 : Int32) (res : (HP × Int32)) : (HP × Int32 × Int32) → Prop := fun s => Fx q_TJ_left 6 sh 29 [some (.ref c), some (.int v1), some (.int v2), some (.int v3), some (.int s.2.1), some (.int v5), some (.int s.2.2), none] [] s.1 (some (.int res.2)) res.1
set_option maxHeartbeats 4000000 in
set_option maxRecDepth 20000 in
theorem t_TJ_left_l29 (sh : Shp) (c : Nat) (hS : S_TJ sh c) (hp : HP) (v1 : Int32) (v2 : Int32) (v3 : Int32) (v5 : Int32) (res : (HP × Int32)) : ∀ (s : (HP × Int32 × Int32)) (t : (HP × Int32)), f_TJ_left_l29 c hp v1 v2 v3 v5 s = some t → (fun v => v = res) t → P_TJ_left_29 sh c v1 v2 v3 v5 res s := by
  refine loop_ind (P_TJ_left_29 sh c v1 v2 v3 v5 res) (fun v => v = res) ?_
  intro s t hf hk
  obtain ⟨hp, v4, v6⟩ := s
  replace hf : f_TJ_left_b29 c hp v1 v2 v3 v5 v4 v6 = some t := hf
  show Fx q_TJ_left 6 sh 29 [some (.ref c), some (.int v1), some (.int v2), some (.int v3), some (.int v4), some (.int v5), some (.int v6), none] [] hp (some (.int res.2)) res.1
  unfold f_TJ_left_b29 at hf
  refine Fx.run [(.iload 6, 2, 6, 0, .null), (.iload 5, 2, 5, 0, .null)] 33 (by decide +kernel) ?_
  show Fx q_TJ_left 6 sh 33 [some (.ref c), some (.int v1), some (.int v2), some (.int v3), some (.int v4), some (.int v5), some (.int v6), none] [.int v5, .int v6] hp (some (.int res.2)) res.1
  refine Fx.icmp_ge (74) 107 36 (by decide +kernel) (fun b4 => ?_) (fun b4 => ?_)
  · replace hf := ifp b4 hf
    replace hf := mpd hf
    obtain ⟨t, hf, rfl⟩ := hf
    refine Fx.run [(.iload_n 2, 1, 2, 0, .null), (.iconst (-1), 1, 0, 0, .int (-1))] 109 (by decide +kernel) ?_
    show Fx q_TJ_left 6 sh 109 [some (.ref c), some (.int v1), some (.int v2), some (.int v3), some (.int v4), some (.int v5), some (.int v6), none] [.int (-1), .int v2] hp (some (.int res.2)) res.1
    refine Fx.icmp_ne (8) 117 112 (by decide +kernel) (fun b5 => ?_) (fun b5 => ?_)
    · replace hf := ifn b5 hf
      refine Fx.run [(.ldc 123, 2, 0, 0, .int (-10000000))] 119 (by decide +kernel) ?_
      show Fx q_TJ_left 6 sh 119 [some (.ref c), some (.int v1), some (.int v2), some (.int v3), some (.int v4), some (.int v5), some (.int v6), none] [.int (-10000000)] hp (some (.int res.2)) res.1
      obtain rfl := Option.some.inj hf
      have hk : (hp, (-10000000)) = res := hk
      subst hk
      exact Fx.iret (by decide +kernel) rfl
    · replace hf := ifp b5 hf
      refine Fx.run [(.iload 4, 2, 4, 0, .null)] 114 (by decide +kernel) ?_
      show Fx q_TJ_left 6 sh 114 [some (.ref c), some (.int v1), some (.int v2), some (.int v3), some (.int v4), some (.int v5), some (.int v6), none] [.int v4] hp (some (.int res.2)) res.1
      refine Fx.goto (5) 119 (by decide +kernel) ?_
      obtain rfl := Option.some.inj hf
      have hk : (hp, v4) = res := hk
      subst hk
      exact Fx.iret (by decide +kernel) rfl
  · replace hf := ifn b4 hf
    refine Fx.run [(.aload_n 0, 1, 0, 0, .null), (.getfield 33, 3, 8, 4, .ref 37), (.aload_n 0, 1, 0, 0, .null), (.getfield 12, 3, 8, 0, .ref 1), (.iload_n 1, 1, 1, 0, .null), (.iload 6, 2, 6, 0, .null)] 47 (by decide +kernel) ?_
    show isK sh c 8 ∧ isK sh c 8 ∧ Fx q_TJ_left 6 sh 47 [some (.ref c), some (.int v1), some (.int v2), some (.int v3), some (.int v4), some (.int v5), some (.int v6), none] [.int v6, .int v1, .ref (c + 1), .ref (c + 37)] hp (some (.int res.2)) res.1
    refine ⟨hS.1, hS.1, ?_⟩
    replace hf := bnd hf
    obtain ⟨h7, hr6, hf⟩ := hf
    refine Fx.callV (rr := none) (hp1 := h7) [.ref (c + 1), .int v1, .int v6] [] lk_8_199 (by decide +kernel) (t_Ma_gather sh (c + 37) (hS.2.2.2.2.1) hp (c + 1) (hS.2.1) v1 v6 h7 hr6) ⟨Nat.le_of_ble_eq_true rfl, Nat.le_of_ble_eq_true rfl⟩ (hS.2.2.2.2.1).1 (by decide) rfl (Nat.le_of_ble_eq_true rfl) ?_
    show Fx q_TJ_left 6 sh 50 [some (.ref c), some (.int v1), some (.int v2), some (.int v3), some (.int v4), some (.int v5), some (.int v6), none] [] h7 (some (.int res.2)) res.1
    refine Fx.run [(.aload_n 0, 1, 0, 0, .null), (.getfield 33, 3, 8, 4, .ref 37), (.aload_n 0, 1, 0, 0, .null), (.getfield 26, 3, 8, 3, .ref 34)] 58 (by decide +kernel) ?_
    show isK sh c 8 ∧ isK sh c 8 ∧ Fx q_TJ_left 6 sh 58 [some (.ref c), some (.int v1), some (.int v2), some (.int v3), some (.int v4), some (.int v5), some (.int v6), none] [.ref (c + 34), .ref (c + 37)] h7 (some (.int res.2)) res.1
    refine ⟨hS.1, hS.1, ?_⟩
    replace hf := bnd hf
    obtain ⟨h9, hr8, hf⟩ := hf
    refine Fx.callV (rr := none) (hp1 := h9) [.ref (c + 34)] [] lk_8_207 (by decide +kernel) (t_Ma_layCover sh (c + 37) (hS.2.2.2.2.1) h7 (c + 34) (hS.2.2.2.1) h9 hr8) ⟨Nat.le_of_ble_eq_true rfl, Nat.le_of_ble_eq_true rfl⟩ (hS.2.2.2.2.1).1 (by decide) rfl (Nat.le_of_ble_eq_true rfl) ?_
    show Fx q_TJ_left 6 sh 61 [some (.ref c), some (.int v1), some (.int v2), some (.int v3), some (.int v4), some (.int v5), some (.int v6), none] [] h9 (some (.int res.2)) res.1
    refine Fx.run [(.aload_n 0, 1, 0, 0, .null)] 62 (by decide +kernel) ?_
    show Fx q_TJ_left 6 sh 62 [some (.ref c), some (.int v1), some (.int v2), some (.int v3), some (.int v4), some (.int v5), some (.int v6), none] [.ref c] h9 (some (.int res.2)) res.1
    replace hf := bnd hf
    obtain ⟨r10, hr10, hf⟩ := hf
    refine Fx.callV (rr := (some (.int r10))) (hp1 := h9) [] [] lk_8_212 (by decide +kernel) (t_TJ_countLeftOver sh c (hS) h9 r10 hr10) ⟨Nat.le_of_ble_eq_true rfl, Nat.le_of_ble_eq_true rfl⟩ (hS).1 (by decide) rfl (Nat.le_of_ble_eq_true rfl) ?_
    show Fx q_TJ_left 6 sh 65 [some (.ref c), some (.int v1), some (.int v2), some (.int v3), some (.int v4), some (.int v5), some (.int v6), none] [.int r10] h9 (some (.int res.2)) res.1
    refine Fx.run [(.istore 7, 2, 7, 0, .null), (.iload_n 2, 1, 2, 0, .null), (.iload 4, 2, 4, 0, .null)] 70 (by decide +kernel) ?_
    show Fx q_TJ_left 6 sh 70 [some (.ref c), some (.int v1), some (.int v2), some (.int v3), some (.int v4), some (.int v5), some (.int v6), some (.int r10)] [.int v4, .int v2] h9 (some (.int res.2)) res.1
    refine Fx.icmp_lt (24) 94 73 (by decide +kernel) (fun b11 => ?_) (fun b11 => ?_)
    · replace hf := ifp b11 hf
      refine Fx.run [(.iload 4, 2, 4, 0, .null), (.iload 7, 2, 7, 0, .null), (.iadd, 1, 0, 0, .null), (.istore 4, 2, 4, 0, .null), (.iinc 6 1, 3, 6, 0, .int 1)] 104 (by decide +kernel) ?_
      show Fx q_TJ_left 6 sh 104 [some (.ref c), some (.int v1), some (.int v2), some (.int v3), some (.int (v4 + r10)), some (.int v5), some (.int (v6 + 1)), some (.int r10)] [] h9 (some (.int res.2)) res.1
      refine Fx.goto (-75) 29 (by decide +kernel) ?_
      obtain rfl := Option.some.inj hf
      have hk : Fx q_TJ_left 6 sh 29 [some (.ref c), some (.int v1), some (.int v2), some (.int v3), some (.int (v4 + r10)), some (.int v5), some (.int (v6 + 1)), none] [] h9 (some (.int res.2)) res.1 := hk
      exact Fx.le hk (And.intro rfl (And.intro rfl (And.intro rfl (And.intro rfl (And.intro rfl (And.intro rfl (And.intro rfl trivial)))))))
    · replace hf := ifn b11 hf
      refine Fx.run [(.iload_n 2, 1, 2, 0, .null), (.iload 4, 2, 4, 0, .null), (.iload 7, 2, 7, 0, .null), (.iadd, 1, 0, 0, .null)] 79 (by decide +kernel) ?_
      show Fx q_TJ_left 6 sh 79 [some (.ref c), some (.int v1), some (.int v2), some (.int v3), some (.int v4), some (.int v5), some (.int v6), some (.int r10)] [.int (v4 + r10), .int v2] h9 (some (.int res.2)) res.1
      refine Fx.icmp_ge (15) 94 82 (by decide +kernel) (fun b12 => ?_) (fun b12 => ?_)
      · replace hf := ifp b12 hf
        refine Fx.run [(.iload 4, 2, 4, 0, .null), (.iload 7, 2, 7, 0, .null), (.iadd, 1, 0, 0, .null), (.istore 4, 2, 4, 0, .null), (.iinc 6 1, 3, 6, 0, .int 1)] 104 (by decide +kernel) ?_
        show Fx q_TJ_left 6 sh 104 [some (.ref c), some (.int v1), some (.int v2), some (.int v3), some (.int (v4 + r10)), some (.int v5), some (.int (v6 + 1)), some (.int r10)] [] h9 (some (.int res.2)) res.1
        refine Fx.goto (-75) 29 (by decide +kernel) ?_
        obtain rfl := Option.some.inj hf
        have hk : Fx q_TJ_left 6 sh 29 [some (.ref c), some (.int v1), some (.int v2), some (.int v3), some (.int (v4 + r10)), some (.int v5), some (.int (v6 + 1)), none] [] h9 (some (.int res.2)) res.1 := hk
        exact Fx.le hk (And.intro rfl (And.intro rfl (And.intro rfl (And.intro rfl (And.intro rfl (And.intro rfl (And.intro rfl trivial)))))))
      · replace hf := ifn b12 hf
        replace hf := mpd hf
        obtain ⟨t, hf, rfl⟩ := hf
        refine Fx.run [(.aload_n 0, 1, 0, 0, .null), (.iload 6, 2, 6, 0, .null), (.iload_n 2, 1, 2, 0, .null), (.iload 4, 2, 4, 0, .null), (.isub, 1, 0, 0, .null), (.iload_n 3, 1, 3, 0, .null)] 90 (by decide +kernel) ?_
        show Fx q_TJ_left 6 sh 90 [some (.ref c), some (.int v1), some (.int v2), some (.int v3), some (.int v4), some (.int v5), some (.int v6), some (.int r10)] [.int v3, .int (v2 - v4), .int v6, .ref c] h9 (some (.int res.2)) res.1
        replace hf := bnd hf
        obtain ⟨r13, hr13, hf⟩ := hf
        refine Fx.callV (rr := (some (.int r13))) (hp1 := h9) [.int v6, .int (v2 - v4), .int v3] [] lk_8_224 (by decide +kernel) (t_TJ_leftOver sh c (hS) h9 v6 (v2 - v4) v3 r13 hr13) ⟨Nat.le_of_ble_eq_true rfl, Nat.le_of_ble_eq_true rfl⟩ (hS).1 (by decide) rfl (Nat.le_of_ble_eq_true rfl) ?_
        show Fx q_TJ_left 6 sh 93 [some (.ref c), some (.int v1), some (.int v2), some (.int v3), some (.int v4), some (.int v5), some (.int v6), some (.int r10)] [.int r13] h9 (some (.int res.2)) res.1
        obtain rfl := Option.some.inj hf
        have hk : (h9, r13) = res := hk
        subst hk
        exact Fx.iret (by decide +kernel) rfl
set_option maxHeartbeats 4000000 in
set_option maxRecDepth 20000 in
theorem t_TJ_left (sh : Shp) (c : Nat) (hS : S_TJ sh c) (hp : HP) (v1 : Int32) (v2 : Int32) (v3 : Int32) (res : (HP × Int32)) (hf : f_TJ_left c hp v1 v2 v3 = some res) : Ex 6 q_TJ_left sh [.ref c, .int v1, .int v2, .int v3] hp (some (.int res.2)) res.1 := by
  refine Ex.of [some (.ref c), some (.int v1), some (.int v2), some (.int v3), none, none, none, none] rfl (Nat.le_of_ble_eq_true rfl) (by decide +kernel) rfl ?_
  obtain ⟨t, hk⟩ : ∃ t, t = res := ⟨res, rfl⟩
  rw [← hk] at hf
  unfold f_TJ_left at hf
  refine Fx.run [(.iload_n 1, 1, 1, 0, .null)] 1 (by decide +kernel) ?_
  show Fx q_TJ_left 6 sh 1 [some (.ref c), some (.int v1), some (.int v2), some (.int v3), none, none, none, none] [.int v1] hp (some (.int res.2)) res.1
  replace hf := bnd hf
  obtain ⟨r1, hr1, hf⟩ := hf
  refine Fx.callS (rr := (some (.int r1))) (hp1 := hp) [.int v1] [] lk_8_91 (by decide +kernel) (t_TJ_isSide sh hp v1 r1 hr1) ⟨Nat.le_of_ble_eq_true rfl, Nat.le_of_ble_eq_true rfl⟩ rfl (Nat.le_of_ble_eq_true rfl) ?_
  show Fx q_TJ_left 6 sh 4 [some (.ref c), some (.int v1), some (.int v2), some (.int v3), none, none, none, none] [.int r1] hp (some (.int res.2)) res.1
  refine Fx.if_ne (6) 10 7 (by decide +kernel) (fun b2 => ?_) (fun b2 => ?_)
  · replace hf := ifn b2 hf
    refine Fx.run [(.iconst 0, 1, 0, 0, .int 0), (.istore 4, 2, 4, 0, .null), (.aload_n 0, 1, 0, 0, .null), (.getfield 12, 3, 8, 0, .ref 1), (.iload_n 1, 1, 1, 0, .null)] 18 (by decide +kernel) ?_
    show isK sh c 8 ∧ Fx q_TJ_left 6 sh 18 [some (.ref c), some (.int v1), some (.int v2), some (.int v3), some (.int 0), none, none, none] [.int v1, .ref (c + 1)] hp (some (.int res.2)) res.1
    refine ⟨hS.1, ?_⟩
    replace hf := bnd hf
    obtain ⟨r3, hr3, hf⟩ := hf
    refine Fx.callV (rr := (some (.ref r3))) (hp1 := hp) [.int v1] [] lk_8_95 (by decide +kernel) (t_St_rowsOf sh (c + 1) (hS.2.1) hp v1 r3 hr3) ⟨Nat.le_of_ble_eq_true rfl, Nat.le_of_ble_eq_true rfl⟩ (hS.2.1).1 (by decide) rfl (Nat.le_of_ble_eq_true rfl) ?_
    show Fx q_TJ_left 6 sh 21 [some (.ref c), some (.int v1), some (.int v2), some (.int v3), some (.int 0), none, none, none] [.ref r3] hp (some (.int res.2)) res.1
    refine Fx.run [(.getfield 88, 3, 4, 5, .null), (.istore 5, 2, 5, 0, .null), (.iconst 0, 1, 0, 0, .int 0), (.istore 6, 2, 6, 0, .null)] 29 (by decide +kernel) ?_
    show isK sh r3 4 ∧ Fx q_TJ_left 6 sh 29 [some (.ref c), some (.int v1), some (.int v2), some (.int v3), some (.int 0), some (.int (hp.1 r3 5)), some (.int 0), none] [] hp (some (.int res.2)) res.1
    refine ⟨(rowsOf_S hS.2.1 hr3).1, ?_⟩
    have hl := t_TJ_left_l29 sh c hS hp v1 v2 v3 (hp.1 r3 5) res (hp, 0, 0) _ hf hk
    have hl : Fx q_TJ_left 6 sh 29 [some (.ref c), some (.int v1), some (.int v2), some (.int v3), some (.int 0), some (.int (hp.1 r3 5)), some (.int 0), none] [] hp (some (.int res.2)) res.1 := hl
    exact Fx.le hl (And.intro rfl (And.intro rfl (And.intro rfl (And.intro rfl (And.intro rfl (And.intro rfl (And.intro rfl trivial)))))))
  · replace hf := ifp b2 hf
    refine Fx.run [(.ldc 123, 2, 0, 0, .int (-10000000))] 9 (by decide +kernel) ?_
    show Fx q_TJ_left 6 sh 9 [some (.ref c), some (.int v1), some (.int v2), some (.int v3), none, none, none, none] [.int (-10000000)] hp (some (.int res.2)) res.1
    obtain rfl := Option.some.inj hf
    have hk : (hp, (-10000000)) = res := hk
    subst hk
    exact Fx.iret (by decide +kernel) rfl
set_option maxHeartbeats 4000000 in
set_option maxRecDepth 20000 in
theorem t_Ma_putInside (sh : Shp) (c : Nat) (hS : S_Ma sh c) (hp : HP) (v1 : Nat) (hv1 : S_Co sh v1) (v2 : Int32) (res : HP) (hf : f_Ma_putInside c hp v1 v2 = some res) : Ex 2 q_Ma_putInside sh [.ref c, .ref v1, .int v2] hp none res := by
  refine Ex.of [some (.ref c), some (.ref v1), some (.int v2)] rfl (Nat.le_of_ble_eq_true rfl) (by decide +kernel) rfl ?_
  obtain ⟨t, hk⟩ : ∃ t, t = res := ⟨res, rfl⟩
  rw [← hk] at hf
  unfold f_Ma_putInside at hf
  refine Fx.run [(.iload_n 2, 1, 2, 0, .null), (.aload_n 0, 1, 0, 0, .null), (.getfield 33, 3, 2, 4, .null)] 5 (by decide +kernel) ?_
  show isK sh c 2 ∧ Fx q_Ma_putInside 2 sh 5 [some (.ref c), some (.ref v1), some (.int v2)] [.int (hp.1 c 4), .int v2] hp none res
  refine ⟨hS.1, ?_⟩
  refine Fx.icmp_le (17) 22 8 (by decide +kernel) (fun b1 => ?_) (fun b1 => ?_)
  · replace hf := ifp b1 hf
    obtain rfl := Option.some.inj hf
    have hk : hp = res := hk
    subst hk
    exact Fx.vret (by decide +kernel) rfl
  · replace hf := ifn b1 hf
    refine Fx.run [(.iload_n 2, 1, 2, 0, .null), (.aload_n 0, 1, 0, 0, .null), (.getfield 40, 3, 2, 5, .null)] 13 (by decide +kernel) ?_
    show isK sh c 2 ∧ Fx q_Ma_putInside 2 sh 13 [some (.ref c), some (.ref v1), some (.int v2)] [.int (hp.1 c 5), .int v2] hp none res
    refine ⟨hS.1, ?_⟩
    refine Fx.icmp_ge (9) 22 16 (by decide +kernel) (fun b2 => ?_) (fun b2 => ?_)
    · replace hf := ifp b2 hf
      obtain rfl := Option.some.inj hf
      have hk : hp = res := hk
      subst hk
      exact Fx.vret (by decide +kernel) rfl
    · replace hf := ifn b2 hf
      refine Fx.run [(.aload_n 1, 1, 1, 0, .null), (.iload_n 2, 1, 2, 0, .null), (.i2l, 1, 0, 0, .null)] 19 (by decide +kernel) ?_
      show Fx q_Ma_putInside 2 sh 19 [some (.ref c), some (.ref v1), some (.int v2)] [.long (Int32.toInt64 v2), .ref v1] hp none res
      replace hf := bnd hf
      obtain ⟨h4, hr3, hf⟩ := hf
      refine Fx.callV (rr := none) (hp1 := h4) [.long (Int32.toInt64 v2)] [] lk_2_84 (by decide +kernel) (t_Co_put sh v1 (hv1) hp (Int32.toInt64 v2) h4 hr3) ⟨Nat.le_of_ble_eq_true rfl, Nat.le_of_ble_eq_true rfl⟩ (hv1).1 (by decide) rfl (Nat.le_of_ble_eq_true rfl) ?_
      show Fx q_Ma_putInside 2 sh 22 [some (.ref c), some (.ref v1), some (.int v2)] [] h4 none res
      obtain rfl := Option.some.inj hf
      have hk : h4 = res := hk
      subst hk
      exact Fx.vret (by decide +kernel) rfl
abbrev P_Ma_layParts_24 (sh : Shp) (c : Nat) (v1 : Nat) (v2 : Nat) (res : HP) : (HP × Int32) → Prop := fun s => Fx q_Ma_layParts 3 sh 24 [some (.ref c), some (.ref v1), some (.ref v2), some (.int s.2), none, none] [] s.1 none res
abbrev P_Ma_layParts_70 (sh : Shp) (c : Nat) (v1 : Nat) (v2 : Nat) (res : HP) : (HP × Int32) → Prop := fun s => Fx q_Ma_layParts 3 sh 70 [some (.ref c), some (.ref v1), some (.ref v2), some (.int s.2), none, none] [] s.1 none res
set_option maxHeartbeats 4000000 in
set_option maxRecDepth 20000 in
theorem t_Ma_layParts_l70 (sh : Shp) (c : Nat) (hS : S_Ma sh c) (hp : HP) (v1 : Nat) (hv1 : S_Co sh v1) (v2 : Nat) (hv2 : S_Pa sh v2) (res : HP) : ∀ (s : (HP × Int32)) (t : HP), f_Ma_layParts_l70 c hp v1 v2 s = some t → (fun v => v = res) t → P_Ma_layParts_70 sh c v1 v2 res s := by
  refine loop_ind (P_Ma_layParts_70 sh c v1 v2 res) (fun v => v = res) ?_
  intro s t hf hk
  obtain ⟨hp, v3⟩ := s
  replace hf : f_Ma_layParts_b70 c hp v1 v2 v3 = some t := hf
  show Fx q_Ma_layParts 3 sh 70 [some (.ref c), some (.ref v1), some (.ref v2), some (.int v3), none, none] [] hp none res
  unfold f_Ma_layParts_b70 at hf
  refine Fx.run [(.iload_n 3, 1, 3, 0, .null), (.aload_n 1, 1, 1, 0, .null), (.getfield 94, 3, 0, 1, .null)] 75 (by decide +kernel) ?_
  show isK sh v1 0 ∧ Fx q_Ma_layParts 3 sh 75 [some (.ref c), some (.ref v1), some (.ref v2), some (.int v3), none, none] [.int (hp.1 v1 1), .int v3] hp none res
  refine ⟨hv1.1, ?_⟩
  refine Fx.icmp_ge (56) 131 78 (by decide +kernel) (fun b12 => ?_) (fun b12 => ?_)
  · replace hf := ifp b12 hf
    replace hf := mpd hf
    obtain ⟨t, hf, rfl⟩ := hf
    obtain rfl := Option.some.inj hf
    have hk : hp = res := hk
    subst hk
    exact Fx.vret (by decide +kernel) rfl
  · replace hf := ifn b12 hf
    refine Fx.run [(.aload_n 1, 1, 1, 0, .null), (.iload_n 3, 1, 3, 0, .null), (.iconst 1, 1, 0, 0, .int 1), (.isub, 1, 0, 0, .null)] 82 (by decide +kernel) ?_
    show Fx q_Ma_layParts 3 sh 82 [some (.ref c), some (.ref v1), some (.ref v2), some (.int v3), none, none] [.int (v3 - 1), .ref v1] hp none res
    replace hf := bnd hf
    obtain ⟨r13, hr13, hf⟩ := hf
    refine Fx.callV (rr := (some (.long r13))) (hp1 := hp) [.int (v3 - 1)] [] lk_2_95 (by decide +kernel) (t_Co_at sh v1 (hv1) hp (v3 - 1) r13 hr13) ⟨Nat.le_of_ble_eq_true rfl, Nat.le_of_ble_eq_true rfl⟩ (hv1).1 (by decide) rfl (Nat.le_of_ble_eq_true rfl) ?_
    show Fx q_Ma_layParts 3 sh 85 [some (.ref c), some (.ref v1), some (.ref v2), some (.int v3), none, none] [.long r13] hp none res
    refine Fx.run [(.l2i, 1, 0, 0, .null), (.istore 4, 2, 4, 0, .null), (.aload_n 1, 1, 1, 0, .null), (.iload_n 3, 1, 3, 0, .null)] 90 (by decide +kernel) ?_
    show Fx q_Ma_layParts 3 sh 90 [some (.ref c), some (.ref v1), some (.ref v2), some (.int v3), some (.int (Int64.toInt32 r13)), none] [.int v3, .ref v1] hp none res
    replace hf := bnd hf
    obtain ⟨r14, hr14, hf⟩ := hf
    refine Fx.callV (rr := (some (.long r14))) (hp1 := hp) [.int v3] [] lk_2_95 (by decide +kernel) (t_Co_at sh v1 (hv1) hp v3 r14 hr14) ⟨Nat.le_of_ble_eq_true rfl, Nat.le_of_ble_eq_true rfl⟩ (hv1).1 (by decide) rfl (Nat.le_of_ble_eq_true rfl) ?_
    show Fx q_Ma_layParts 3 sh 93 [some (.ref c), some (.ref v1), some (.ref v2), some (.int v3), some (.int (Int64.toInt32 r13)), none] [.long r14] hp none res
    refine Fx.run [(.l2i, 1, 0, 0, .null), (.istore 5, 2, 5, 0, .null), (.iload 4, 2, 4, 0, .null), (.iload 5, 2, 5, 0, .null)] 100 (by decide +kernel) ?_
    show Fx q_Ma_layParts 3 sh 100 [some (.ref c), some (.ref v1), some (.ref v2), some (.int v3), some (.int (Int64.toInt32 r13)), some (.int (Int64.toInt32 r14))] [.int (Int64.toInt32 r14), .int (Int64.toInt32 r13)] hp none res
    refine Fx.icmp_ge (25) 125 103 (by decide +kernel) (fun b15 => ?_) (fun b15 => ?_)
    · replace hf := ifp b15 hf
      refine Fx.run [(.iinc 3 1, 3, 3, 0, .int 1)] 128 (by decide +kernel) ?_
      show Fx q_Ma_layParts 3 sh 128 [some (.ref c), some (.ref v1), some (.ref v2), some (.int (v3 + 1)), some (.int (Int64.toInt32 r13)), some (.int (Int64.toInt32 r14))] [] hp none res
      refine Fx.goto (-58) 70 (by decide +kernel) ?_
      obtain rfl := Option.some.inj hf
      have hk : Fx q_Ma_layParts 3 sh 70 [some (.ref c), some (.ref v1), some (.ref v2), some (.int (v3 + 1)), none, none] [] hp none res := hk
      exact Fx.le hk (And.intro rfl (And.intro rfl (And.intro rfl (And.intro rfl trivial))))
    · replace hf := ifn b15 hf
      refine Fx.run [(.aload_n 2, 1, 2, 0, .null), (.iload 4, 2, 4, 0, .null)] 106 (by decide +kernel) ?_
      show Fx q_Ma_layParts 3 sh 106 [some (.ref c), some (.ref v1), some (.ref v2), some (.int v3), some (.int (Int64.toInt32 r13)), some (.int (Int64.toInt32 r14))] [.int (Int64.toInt32 r13), .ref v2] hp none res
      replace hf := bnd hf
      obtain ⟨r16, hr16, hf⟩ := hf
      refine Fx.callN (rr := (some (.int r16))) (hp1 := hp) [.int (Int64.toInt32 r13)] [.ref v2] lk_2_74 (by decide +kernel) (t_TJ_timeOf sh hp (Int64.toInt32 r13) r16 hr16) ⟨Nat.le_of_ble_eq_true rfl, Nat.le_of_ble_eq_true rfl⟩ rfl (Nat.le_of_ble_eq_true rfl) ?_
      show Fx q_Ma_layParts 3 sh 109 [some (.ref c), some (.ref v1), some (.ref v2), some (.int v3), some (.int (Int64.toInt32 r13)), some (.int (Int64.toInt32 r14))] [.int r16, .ref v2] hp none res
      refine Fx.run [(.iload 5, 2, 5, 0, .null)] 111 (by decide +kernel) ?_
      show Fx q_Ma_layParts 3 sh 111 [some (.ref c), some (.ref v1), some (.ref v2), some (.int v3), some (.int (Int64.toInt32 r13)), some (.int (Int64.toInt32 r14))] [.int (Int64.toInt32 r14), .int r16, .ref v2] hp none res
      replace hf := bnd hf
      obtain ⟨r17, hr17, hf⟩ := hf
      refine Fx.callN (rr := (some (.int r17))) (hp1 := hp) [.int (Int64.toInt32 r14)] [.int r16, .ref v2] lk_2_74 (by decide +kernel) (t_TJ_timeOf sh hp (Int64.toInt32 r14) r17 hr17) ⟨Nat.le_of_ble_eq_true rfl, Nat.le_of_ble_eq_true rfl⟩ rfl (Nat.le_of_ble_eq_true rfl) ?_
      show Fx q_Ma_layParts 3 sh 114 [some (.ref c), some (.ref v1), some (.ref v2), some (.int v3), some (.int (Int64.toInt32 r13)), some (.int (Int64.toInt32 r14))] [.int r17, .int r16, .ref v2] hp none res
      refine Fx.run [(.aload_n 0, 1, 0, 0, .null), (.iload 4, 2, 4, 0, .null)] 117 (by decide +kernel) ?_
      show Fx q_Ma_layParts 3 sh 117 [some (.ref c), some (.ref v1), some (.ref v2), some (.int v3), some (.int (Int64.toInt32 r13)), some (.int (Int64.toInt32 r14))] [.int (Int64.toInt32 r13), .ref c, .int r17, .int r16, .ref v2] hp none res
      replace hf := bnd hf
      obtain ⟨r18, hr18, hf⟩ := hf
      refine Fx.callV (rr := (some (.int r18))) (hp1 := hp) [.int (Int64.toInt32 r13)] [.int r17, .int r16, .ref v2] lk_2_51 (by decide +kernel) (t_Ma_countAt sh c (hS) hp (Int64.toInt32 r13) r18 hr18) ⟨Nat.le_of_ble_eq_true rfl, Nat.le_of_ble_eq_true rfl⟩ (hS).1 (by decide) rfl (Nat.le_of_ble_eq_true rfl) ?_
      show Fx q_Ma_layParts 3 sh 120 [some (.ref c), some (.ref v1), some (.ref v2), some (.int v3), some (.int (Int64.toInt32 r13)), some (.int (Int64.toInt32 r14))] [.int r18, .int r17, .int r16, .ref v2] hp none res
      refine Fx.run [(.iconst 0, 1, 0, 0, .int 0), (.iconst 0, 1, 0, 0, .int 0)] 122 (by decide +kernel) ?_
      show Fx q_Ma_layParts 3 sh 122 [some (.ref c), some (.ref v1), some (.ref v2), some (.int v3), some (.int (Int64.toInt32 r13)), some (.int (Int64.toInt32 r14))] [.int 0, .int 0, .int r18, .int r17, .int r16, .ref v2] hp none res
      replace hf := bnd hf
      obtain ⟨h20, hr19, hf⟩ := hf
      refine Fx.callV (rr := none) (hp1 := h20) [.int r16, .int r17, .int r18, .int 0, .int 0] [] lk_2_77 (by decide +kernel) (t_Pa_put sh v2 (hv2) hp r16 r17 r18 0 0 h20 hr19) ⟨Nat.le_of_ble_eq_true rfl, Nat.le_of_ble_eq_true rfl⟩ (hv2).1 (by decide) rfl (Nat.le_of_ble_eq_true rfl) ?_
      show Fx q_Ma_layParts 3 sh 125 [some (.ref c), some (.ref v1), some (.ref v2), some (.int v3), some (.int (Int64.toInt32 r13)), some (.int (Int64.toInt32 r14))] [] h20 none res
      refine Fx.run [(.iinc 3 1, 3, 3, 0, .int 1)] 128 (by decide +kernel) ?_
      show Fx q_Ma_layParts 3 sh 128 [some (.ref c), some (.ref v1), some (.ref v2), some (.int (v3 + 1)), some (.int (Int64.toInt32 r13)), some (.int (Int64.toInt32 r14))] [] h20 none res
      refine Fx.goto (-58) 70 (by decide +kernel) ?_
      obtain rfl := Option.some.inj hf
      have hk : Fx q_Ma_layParts 3 sh 70 [some (.ref c), some (.ref v1), some (.ref v2), some (.int (v3 + 1)), none, none] [] h20 none res := hk
      exact Fx.le hk (And.intro rfl (And.intro rfl (And.intro rfl (And.intro rfl trivial))))
set_option maxHeartbeats 4000000 in
set_option maxRecDepth 20000 in
theorem t_Ma_layParts_l24 (sh : Shp) (c : Nat) (hS : S_Ma sh c) (hp : HP) (v1 : Nat) (hv1 : S_Co sh v1) (v2 : Nat) (hv2 : S_Pa sh v2) (res : HP) : ∀ (s : (HP × Int32)) (t : HP), f_Ma_layParts_l24 c hp v1 v2 s = some t → (fun v => v = res) t → P_Ma_layParts_24 sh c v1 v2 res s := by
  refine loop_ind (P_Ma_layParts_24 sh c v1 v2 res) (fun v => v = res) ?_
  intro s t hf hk
  obtain ⟨hp, v3⟩ := s
  replace hf : f_Ma_layParts_b24 c hp v1 v2 v3 = some t := hf
  show Fx q_Ma_layParts 3 sh 24 [some (.ref c), some (.ref v1), some (.ref v2), some (.int v3), none, none] [] hp none res
  unfold f_Ma_layParts_b24 at hf
  refine Fx.run [(.iload_n 3, 1, 3, 0, .null), (.aload_n 0, 1, 0, 0, .null), (.getfield 43, 3, 2, 3, .null)] 29 (by decide +kernel) ?_
  show isK sh c 2 ∧ Fx q_Ma_layParts 3 sh 29 [some (.ref c), some (.ref v1), some (.ref v2), some (.int v3), none, none] [.int (hp.1 c 3), .int v3] hp none res
  refine ⟨hS.1, ?_⟩
  refine Fx.icmp_ge (31) 60 32 (by decide +kernel) (fun b7 => ?_) (fun b7 => ?_)
  · replace hf := ifp b7 hf
    replace hf := mpd hf
    obtain ⟨t, hf, rfl⟩ := hf
    refine Fx.run [(.aload_n 1, 1, 1, 0, .null)] 61 (by decide +kernel) ?_
    show Fx q_Ma_layParts 3 sh 61 [some (.ref c), some (.ref v1), some (.ref v2), some (.int v3), none, none] [.ref v1] hp none res
    replace hf := bnd hf
    obtain ⟨h9, hr8, hf⟩ := hf
    refine Fx.callV (rr := none) (hp1 := h9) [] [] lk_2_91 (by decide +kernel) (t_Co_sort sh v1 (hv1) hp h9 hr8) ⟨Nat.le_of_ble_eq_true rfl, Nat.le_of_ble_eq_true rfl⟩ (hv1).1 (by decide) rfl (Nat.le_of_ble_eq_true rfl) ?_
    show Fx q_Ma_layParts 3 sh 64 [some (.ref c), some (.ref v1), some (.ref v2), some (.int v3), none, none] [] h9 none res
    refine Fx.run [(.aload_n 2, 1, 2, 0, .null)] 65 (by decide +kernel) ?_
    show Fx q_Ma_layParts 3 sh 65 [some (.ref c), some (.ref v1), some (.ref v2), some (.int v3), none, none] [.ref v2] h9 none res
    replace hf := bnd hf
    obtain ⟨h11, hr10, hf⟩ := hf
    refine Fx.callV (rr := none) (hp1 := h11) [] [] lk_2_60 (by decide +kernel) (t_Pa_empty sh v2 (hv2) h9 h11 hr10) ⟨Nat.le_of_ble_eq_true rfl, Nat.le_of_ble_eq_true rfl⟩ (hv2).1 (by decide) rfl (Nat.le_of_ble_eq_true rfl) ?_
    show Fx q_Ma_layParts 3 sh 68 [some (.ref c), some (.ref v1), some (.ref v2), some (.int v3), none, none] [] h11 none res
    refine Fx.run [(.iconst 1, 1, 0, 0, .int 1), (.istore_n 3, 1, 3, 0, .null)] 70 (by decide +kernel) ?_
    show Fx q_Ma_layParts 3 sh 70 [some (.ref c), some (.ref v1), some (.ref v2), some (.int 1), none, none] [] h11 none res
    have hl := t_Ma_layParts_l70 sh c hS h11 v1 (hv1) v2 (hv2) res (h11, 1) _ hf hk
    have hl : Fx q_Ma_layParts 3 sh 70 [some (.ref c), some (.ref v1), some (.ref v2), some (.int 1), none, none] [] h11 none res := hl
    exact Fx.le hl (And.intro rfl (And.intro rfl (And.intro rfl (And.intro rfl trivial))))
  · replace hf := ifn b7 hf
    replace hf := gd hf
    obtain ⟨g21, hf⟩ := hf
    refine Fx.run [(.aload_n 0, 1, 0, 0, .null), (.aload_n 1, 1, 1, 0, .null), (.aload_n 0, 1, 0, 0, .null), (.getfield 15, 3, 2, 1, .ref 2), (.iload_n 3, 1, 3, 0, .null), (.iaload, 1, 40, 0, .null)] 40 (by decide +kernel) ?_
    show isK sh c 2 ∧ (isA sh (c + 2) 10 40 ∧ inb v3 40) ∧ Fx q_Ma_layParts 3 sh 40 [some (.ref c), some (.ref v1), some (.ref v2), some (.int v3), none, none] [.int (hp.1 (c + 2) (ix v3)), .ref v1, .ref c] hp none res
    refine ⟨hS.1, ⟨hS.2.2.1, g21⟩, ?_⟩
    replace hf := bnd hf
    obtain ⟨h23, hr22, hf⟩ := hf
    refine Fx.callV (rr := none) (hp1 := h23) [.ref v1, .int (hp.1 (c + 2) (ix v3))] [] lk_2_87 (by decide +kernel) (t_Ma_putInside sh c (hS) hp v1 (hv1) (hp.1 (c + 2) (ix v3)) h23 hr22) ⟨Nat.le_of_ble_eq_true rfl, Nat.le_of_ble_eq_true rfl⟩ (hS).1 (by decide) rfl (Nat.le_of_ble_eq_true rfl) ?_
    show Fx q_Ma_layParts 3 sh 43 [some (.ref c), some (.ref v1), some (.ref v2), some (.int v3), none, none] [] h23 none res
    replace hf := gd hf
    obtain ⟨g24, hf⟩ := hf
    refine Fx.run [(.aload_n 0, 1, 0, 0, .null), (.aload_n 1, 1, 1, 0, .null), (.aload_n 0, 1, 0, 0, .null), (.getfield 18, 3, 2, 2, .ref 3), (.iload_n 3, 1, 3, 0, .null), (.iaload, 1, 40, 0, .null)] 51 (by decide +kernel) ?_
    show isK sh c 2 ∧ (isA sh (c + 3) 10 40 ∧ inb v3 40) ∧ Fx q_Ma_layParts 3 sh 51 [some (.ref c), some (.ref v1), some (.ref v2), some (.int v3), none, none] [.int (h23.1 (c + 3) (ix v3)), .ref v1, .ref c] h23 none res
    refine ⟨hS.1, ⟨hS.2.2.2, g24⟩, ?_⟩
    replace hf := bnd hf
    obtain ⟨h26, hr25, hf⟩ := hf
    refine Fx.callV (rr := none) (hp1 := h26) [.ref v1, .int (h23.1 (c + 3) (ix v3))] [] lk_2_87 (by decide +kernel) (t_Ma_putInside sh c (hS) h23 v1 (hv1) (h23.1 (c + 3) (ix v3)) h26 hr25) ⟨Nat.le_of_ble_eq_true rfl, Nat.le_of_ble_eq_true rfl⟩ (hS).1 (by decide) rfl (Nat.le_of_ble_eq_true rfl) ?_
    show Fx q_Ma_layParts 3 sh 54 [some (.ref c), some (.ref v1), some (.ref v2), some (.int v3), none, none] [] h26 none res
    refine Fx.run [(.iinc 3 1, 3, 3, 0, .int 1)] 57 (by decide +kernel) ?_
    show Fx q_Ma_layParts 3 sh 57 [some (.ref c), some (.ref v1), some (.ref v2), some (.int (v3 + 1)), none, none] [] h26 none res
    refine Fx.goto (-33) 24 (by decide +kernel) ?_
    obtain rfl := Option.some.inj hf
    have hk : Fx q_Ma_layParts 3 sh 24 [some (.ref c), some (.ref v1), some (.ref v2), some (.int (v3 + 1)), none, none] [] h26 none res := hk
    exact Fx.le hk (And.intro rfl (And.intro rfl (And.intro rfl (And.intro rfl trivial))))
set_option maxHeartbeats 4000000 in
set_option maxRecDepth 20000 in
theorem t_Ma_layParts (sh : Shp) (c : Nat) (hS : S_Ma sh c) (hp : HP) (v1 : Nat) (hv1 : S_Co sh v1) (v2 : Nat) (hv2 : S_Pa sh v2) (res : HP) (hf : f_Ma_layParts c hp v1 v2 = some res) : Ex 3 q_Ma_layParts sh [.ref c, .ref v1, .ref v2] hp none res := by
  refine Ex.of [some (.ref c), some (.ref v1), some (.ref v2), none, none, none] rfl (Nat.le_of_ble_eq_true rfl) (by decide +kernel) rfl ?_
  obtain ⟨t, hk⟩ : ∃ t, t = res := ⟨res, rfl⟩
  rw [← hk] at hf
  unfold f_Ma_layParts at hf
  refine Fx.run [(.aload_n 1, 1, 1, 0, .null)] 1 (by decide +kernel) ?_
  show Fx q_Ma_layParts 3 sh 1 [some (.ref c), some (.ref v1), some (.ref v2), none, none, none] [.ref v1] hp none res
  replace hf := bnd hf
  obtain ⟨h2, hr1, hf⟩ := hf
  refine Fx.callV (rr := none) (hp1 := h2) [] [] lk_2_81 (by decide +kernel) (t_Co_empty sh v1 (hv1) hp h2 hr1) ⟨Nat.le_of_ble_eq_true rfl, Nat.le_of_ble_eq_true rfl⟩ (hv1).1 (by decide) rfl (Nat.le_of_ble_eq_true rfl) ?_
  show Fx q_Ma_layParts 3 sh 4 [some (.ref c), some (.ref v1), some (.ref v2), none, none, none] [] h2 none res
  refine Fx.run [(.aload_n 1, 1, 1, 0, .null), (.aload_n 0, 1, 0, 0, .null), (.getfield 33, 3, 2, 4, .null), (.i2l, 1, 0, 0, .null)] 10 (by decide +kernel) ?_
  show isK sh c 2 ∧ Fx q_Ma_layParts 3 sh 10 [some (.ref c), some (.ref v1), some (.ref v2), none, none, none] [.long (Int32.toInt64 (h2.1 c 4)), .ref v1] h2 none res
  refine ⟨hS.1, ?_⟩
  replace hf := bnd hf
  obtain ⟨h4, hr3, hf⟩ := hf
  refine Fx.callV (rr := none) (hp1 := h4) [.long (Int32.toInt64 (h2.1 c 4))] [] lk_2_84 (by decide +kernel) (t_Co_put sh v1 (hv1) h2 (Int32.toInt64 (h2.1 c 4)) h4 hr3) ⟨Nat.le_of_ble_eq_true rfl, Nat.le_of_ble_eq_true rfl⟩ (hv1).1 (by decide) rfl (Nat.le_of_ble_eq_true rfl) ?_
  show Fx q_Ma_layParts 3 sh 13 [some (.ref c), some (.ref v1), some (.ref v2), none, none, none] [] h4 none res
  refine Fx.run [(.aload_n 1, 1, 1, 0, .null), (.aload_n 0, 1, 0, 0, .null), (.getfield 40, 3, 2, 5, .null), (.i2l, 1, 0, 0, .null)] 19 (by decide +kernel) ?_
  show isK sh c 2 ∧ Fx q_Ma_layParts 3 sh 19 [some (.ref c), some (.ref v1), some (.ref v2), none, none, none] [.long (Int32.toInt64 (h4.1 c 5)), .ref v1] h4 none res
  refine ⟨hS.1, ?_⟩
  replace hf := bnd hf
  obtain ⟨h6, hr5, hf⟩ := hf
  refine Fx.callV (rr := none) (hp1 := h6) [.long (Int32.toInt64 (h4.1 c 5))] [] lk_2_84 (by decide +kernel) (t_Co_put sh v1 (hv1) h4 (Int32.toInt64 (h4.1 c 5)) h6 hr5) ⟨Nat.le_of_ble_eq_true rfl, Nat.le_of_ble_eq_true rfl⟩ (hv1).1 (by decide) rfl (Nat.le_of_ble_eq_true rfl) ?_
  show Fx q_Ma_layParts 3 sh 22 [some (.ref c), some (.ref v1), some (.ref v2), none, none, none] [] h6 none res
  refine Fx.run [(.iconst 0, 1, 0, 0, .int 0), (.istore_n 3, 1, 3, 0, .null)] 24 (by decide +kernel) ?_
  show Fx q_Ma_layParts 3 sh 24 [some (.ref c), some (.ref v1), some (.ref v2), some (.int 0), none, none] [] h6 none res
  have hl := t_Ma_layParts_l24 sh c hS h6 v1 (hv1) v2 (hv2) res (h6, 0) _ hf hk
  have hl : Fx q_Ma_layParts 3 sh 24 [some (.ref c), some (.ref v1), some (.ref v2), some (.int 0), none, none] [] h6 none res := hl
  exact Fx.le hl (And.intro rfl (And.intro rfl (And.intro rfl (And.intro rfl trivial))))
set_option maxHeartbeats 4000000 in
set_option maxRecDepth 20000 in
theorem t_TJ_split (sh : Shp) (c : Nat) (hS : S_TJ sh c) (hp : HP) (v1 : Int32) (v2 : Int32) (v3 : Int32) (v4 : Int32) (res : (HP × Int32)) (hf : f_TJ_split c hp v1 v2 v3 v4 = some res) : Ex 6 q_TJ_split sh [.ref c, .int v1, .int v2, .int v3, .int v4] hp (some (.int res.2)) res.1 := by
  refine Ex.of [some (.ref c), some (.int v1), some (.int v2), some (.int v3), some (.int v4)] rfl (Nat.le_of_ble_eq_true rfl) (by decide +kernel) rfl ?_
  obtain ⟨t, hk⟩ : ∃ t, t = res := ⟨res, rfl⟩
  rw [← hk] at hf
  unfold f_TJ_split at hf
  refine Fx.run [(.aload_n 0, 1, 0, 0, .null), (.iload_n 1, 1, 1, 0, .null), (.iload_n 2, 1, 2, 0, .null)] 3 (by decide +kernel) ?_
  show Fx q_TJ_split 6 sh 3 [some (.ref c), some (.int v1), some (.int v2), some (.int v3), some (.int v4)] [.int v2, .int v1, .ref c] hp (some (.int res.2)) res.1
  replace hf := bnd hf
  obtain ⟨r1, hr1, hf⟩ := hf
  refine Fx.callV (rr := (some (.int r1))) (hp1 := hp) [.int v1, .int v2] [] lk_8_189 (by decide +kernel) (t_TJ_isRow sh c (hS) hp v1 v2 r1 hr1) ⟨Nat.le_of_ble_eq_true rfl, Nat.le_of_ble_eq_true rfl⟩ (hS).1 (by decide) rfl (Nat.le_of_ble_eq_true rfl) ?_
  show Fx q_TJ_split 6 sh 6 [some (.ref c), some (.int v1), some (.int v2), some (.int v3), some (.int v4)] [.int r1] hp (some (.int res.2)) res.1
  refine Fx.if_ne (6) 12 9 (by decide +kernel) (fun b2 => ?_) (fun b2 => ?_)
  · replace hf := ifn b2 hf
    refine Fx.run [(.aload_n 0, 1, 0, 0, .null), (.getfield 33, 3, 8, 4, .ref 37), (.aload_n 0, 1, 0, 0, .null), (.getfield 12, 3, 8, 0, .ref 1), (.iload_n 1, 1, 1, 0, .null), (.iload_n 2, 1, 2, 0, .null)] 22 (by decide +kernel) ?_
    show isK sh c 8 ∧ isK sh c 8 ∧ Fx q_TJ_split 6 sh 22 [some (.ref c), some (.int v1), some (.int v2), some (.int v3), some (.int v4)] [.int v2, .int v1, .ref (c + 1), .ref (c + 37)] hp (some (.int res.2)) res.1
    refine ⟨hS.1, hS.1, ?_⟩
    replace hf := bnd hf
    obtain ⟨h4, hr3, hf⟩ := hf
    refine Fx.callV (rr := none) (hp1 := h4) [.ref (c + 1), .int v1, .int v2] [] lk_8_199 (by decide +kernel) (t_Ma_gather sh (c + 37) (hS.2.2.2.2.1) hp (c + 1) (hS.2.1) v1 v2 h4 hr3) ⟨Nat.le_of_ble_eq_true rfl, Nat.le_of_ble_eq_true rfl⟩ (hS.2.2.2.2.1).1 (by decide) rfl (Nat.le_of_ble_eq_true rfl) ?_
    show Fx q_TJ_split 6 sh 25 [some (.ref c), some (.int v1), some (.int v2), some (.int v3), some (.int v4)] [] h4 (some (.int res.2)) res.1
    refine Fx.run [(.aload_n 0, 1, 0, 0, .null), (.getfield 33, 3, 8, 4, .ref 37), (.aload_n 0, 1, 0, 0, .null), (.getfield 19, 3, 8, 2, .ref 32), (.aload_n 0, 1, 0, 0, .null), (.getfield 26, 3, 8, 3, .ref 34)] 37 (by decide +kernel) ?_
    show isK sh c 8 ∧ isK sh c 8 ∧ isK sh c 8 ∧ Fx q_TJ_split 6 sh 37 [some (.ref c), some (.int v1), some (.int v2), some (.int v3), some (.int v4)] [.ref (c + 34), .ref (c + 32), .ref (c + 37)] h4 (some (.int res.2)) res.1
    refine ⟨hS.1, hS.1, hS.1, ?_⟩
    replace hf := bnd hf
    obtain ⟨h6, hr5, hf⟩ := hf
    refine Fx.callV (rr := none) (hp1 := h6) [.ref (c + 32), .ref (c + 34)] [] lk_8_227 (by decide +kernel) (t_Ma_layParts sh (c + 37) (hS.2.2.2.2.1) h4 (c + 32) (hS.2.2.1) (c + 34) (hS.2.2.2.1) h6 hr5) ⟨Nat.le_of_ble_eq_true rfl, Nat.le_of_ble_eq_true rfl⟩ (hS.2.2.2.2.1).1 (by decide) rfl (Nat.le_of_ble_eq_true rfl) ?_
    show Fx q_TJ_split 6 sh 40 [some (.ref c), some (.int v1), some (.int v2), some (.int v3), some (.int v4)] [] h6 (some (.int res.2)) res.1
    refine Fx.run [(.iload_n 3, 1, 3, 0, .null), (.iconst (-1), 1, 0, 0, .int (-1))] 42 (by decide +kernel) ?_
    show Fx q_TJ_split 6 sh 42 [some (.ref c), some (.int v1), some (.int v2), some (.int v3), some (.int v4)] [.int (-1), .int v3] h6 (some (.int res.2)) res.1
    refine Fx.icmp_ne (13) 55 45 (by decide +kernel) (fun b7 => ?_) (fun b7 => ?_)
    · replace hf := ifn b7 hf
      refine Fx.run [(.aload_n 0, 1, 0, 0, .null), (.getfield 26, 3, 8, 3, .ref 34), (.iload_n 3, 1, 3, 0, .null), (.iload 4, 2, 4, 0, .null), (.iconst 3, 1, 0, 0, .int 3)] 63 (by decide +kernel) ?_
      show isK sh c 8 ∧ Fx q_TJ_split 6 sh 63 [some (.ref c), some (.int v1), some (.int v2), some (.int v3), some (.int v4)] [.int 3, .int v4, .int v3, .ref (c + 34)] h6 (some (.int res.2)) res.1
      refine ⟨hS.1, ?_⟩
      replace hf := bnd hf
      obtain ⟨r8, hr8, hf⟩ := hf
      refine Fx.callV (rr := (some (.int r8))) (hp1 := h6) [.int v3, .int v4, .int 3] [] lk_8_221 (by decide +kernel) (t_Pa_answer sh (c + 34) (hS.2.2.2.1) h6 v3 v4 3 r8 hr8) ⟨Nat.le_of_ble_eq_true rfl, Nat.le_of_ble_eq_true rfl⟩ (hS.2.2.2.1).1 (by decide) rfl (Nat.le_of_ble_eq_true rfl) ?_
      show Fx q_TJ_split 6 sh 66 [some (.ref c), some (.int v1), some (.int v2), some (.int v3), some (.int v4)] [.int r8] h6 (some (.int res.2)) res.1
      obtain rfl := Option.some.inj hf
      have hk : (h6, r8) = res := hk
      subst hk
      exact Fx.iret (by decide +kernel) rfl
    · replace hf := ifp b7 hf
      refine Fx.run [(.aload_n 0, 1, 0, 0, .null), (.getfield 26, 3, 8, 3, .ref 34), (.getfield 211, 3, 3, 2, .null)] 52 (by decide +kernel) ?_
      show isK sh c 8 ∧ isK sh (c + 34) 3 ∧ Fx q_TJ_split 6 sh 52 [some (.ref c), some (.int v1), some (.int v2), some (.int v3), some (.int v4)] [.int (h6.1 (c + 34) 2)] h6 (some (.int res.2)) res.1
      refine ⟨hS.1, hS.2.2.2.1.1, ?_⟩
      refine Fx.goto (14) 66 (by decide +kernel) ?_
      obtain rfl := Option.some.inj hf
      have hk : (h6, (h6.1 (c + 34) 2)) = res := hk
      subst hk
      exact Fx.iret (by decide +kernel) rfl
  · replace hf := ifp b2 hf
    refine Fx.run [(.ldc 123, 2, 0, 0, .int (-10000000))] 11 (by decide +kernel) ?_
    show Fx q_TJ_split 6 sh 11 [some (.ref c), some (.int v1), some (.int v2), some (.int v3), some (.int v4)] [.int (-10000000)] hp (some (.int res.2)) res.1
    obtain rfl := Option.some.inj hf
    have hk : (hp, (-10000000)) = res := hk
    subst hk
    exact Fx.iret (by decide +kernel) rfl
abbrev P_TJ_latest_42 (sh : Shp) (c : Nat) (hp : HP) (v1 : Int32) (v2 : Int32) (v3 : Int32) (v4 : Nat) (res : Int32) : (Int32 × Int32) → Prop := fun s => Fx q_TJ_latest 4 sh 42 [some (.ref c), some (.int v1), some (.int v2), some (.int v3), some (.ref v4), some (.int s.1), some (.int s.2), none] [] hp (some (.int res)) hp
set_option maxHeartbeats 4000000 in
set_option maxRecDepth 20000 in
theorem t_TJ_latest_j82 (sh : Shp) (c : Nat) (hS : S_TJ sh c) (hp : HP) (v1 : Int32) (v2 : Int32) (v3 : Int32) (v4 : Nat) (hv4 : S_Ro sh v4) (v5 : Int32) (v6 : Int32) (s0 : Int32) (res : Int32) (t : ((Int32 × Int32) ⊕ Int32)) (hf : f_TJ_latest_j82 c hp v1 v2 v3 v4 v5 v6 s0 = some t) (hk : (Kel (P_TJ_latest_42 sh c hp v1 v2 v3 v4 res) (fun v => v = res)) t) : Fx q_TJ_latest 4 sh 82 [some (.ref c), some (.int v1), some (.int v2), some (.int v3), some (.ref v4), some (.int v5), some (.int v6), none] [.int s0] hp (some (.int res)) hp := by
  unfold f_TJ_latest_j82 at hf
  refine Fx.run [(.istore 7, 2, 7, 0, .null), (.iload 7, 2, 7, 0, .null)] 86 (by decide +kernel) ?_
  show Fx q_TJ_latest 4 sh 86 [some (.ref c), some (.int v1), some (.int v2), some (.int v3), some (.ref v4), some (.int v5), some (.int v6), some (.int s0)] [.int s0] hp (some (.int res)) hp
  refine Fx.if_eq (30) 116 89 (by decide +kernel) (fun b9 => ?_) (fun b9 => ?_)
  · replace hf := ifp b9 hf
    refine Fx.run [(.iinc 6 1, 3, 6, 0, .int 1)] 119 (by decide +kernel) ?_
    show Fx q_TJ_latest 4 sh 119 [some (.ref c), some (.int v1), some (.int v2), some (.int v3), some (.ref v4), some (.int v5), some (.int (v6 + 1)), some (.int s0)] [] hp (some (.int res)) hp
    refine Fx.goto (-77) 42 (by decide +kernel) ?_
    obtain rfl := Option.some.inj hf
    have hk : Fx q_TJ_latest 4 sh 42 [some (.ref c), some (.int v1), some (.int v2), some (.int v3), some (.ref v4), some (.int v5), some (.int (v6 + 1)), none] [] hp (some (.int res)) hp := hk
    exact Fx.le hk (And.intro rfl (And.intro rfl (And.intro rfl (And.intro rfl (And.intro rfl (And.intro rfl (And.intro rfl trivial)))))))
  · replace hf := ifn b9 hf
    refine Fx.run [(.iload 5, 2, 5, 0, .null), (.iconst (-1), 1, 0, 0, .int (-1))] 92 (by decide +kernel) ?_
    show Fx q_TJ_latest 4 sh 92 [some (.ref c), some (.int v1), some (.int v2), some (.int v3), some (.ref v4), some (.int v5), some (.int v6), some (.int s0)] [.int (-1), .int v5] hp (some (.int res)) hp
    refine Fx.icmp_eq (20) 112 95 (by decide +kernel) (fun b10 => ?_) (fun b10 => ?_)
    · replace hf := ifp b10 hf
      refine Fx.run [(.iload 6, 2, 6, 0, .null), (.istore 5, 2, 5, 0, .null), (.iinc 6 1, 3, 6, 0, .int 1)] 119 (by decide +kernel) ?_
      show Fx q_TJ_latest 4 sh 119 [some (.ref c), some (.int v1), some (.int v2), some (.int v3), some (.ref v4), some (.int v6), some (.int (v6 + 1)), some (.int s0)] [] hp (some (.int res)) hp
      refine Fx.goto (-77) 42 (by decide +kernel) ?_
      obtain rfl := Option.some.inj hf
      have hk : Fx q_TJ_latest 4 sh 42 [some (.ref c), some (.int v1), some (.int v2), some (.int v3), some (.ref v4), some (.int v6), some (.int (v6 + 1)), none] [] hp (some (.int res)) hp := hk
      exact Fx.le hk (And.intro rfl (And.intro rfl (And.intro rfl (And.intro rfl (And.intro rfl (And.intro rfl (And.intro rfl trivial)))))))
    · replace hf := ifn b10 hf
      refine Fx.run [(.aload 4, 2, 4, 0, .null), (.iload 6, 2, 6, 0, .null)] 99 (by decide +kernel) ?_
      show Fx q_TJ_latest 4 sh 99 [some (.ref c), some (.int v1), some (.int v2), some (.int v3), some (.ref v4), some (.int v5), some (.int v6), some (.int s0)] [.int v6, .ref v4] hp (some (.int res)) hp
      replace hf := bnd hf
      obtain ⟨r11, hr11, hf⟩ := hf
      refine Fx.callV (rr := (some (.int r11))) (hp1 := hp) [.int v6] [] lk_8_231 (by decide +kernel) (t_Ro_startPlace sh v4 (hv4) hp v6 r11 hr11) ⟨Nat.le_of_ble_eq_true rfl, Nat.le_of_ble_eq_true rfl⟩ (hv4).1 (by decide) rfl (Nat.le_of_ble_eq_true rfl) ?_
      show Fx q_TJ_latest 4 sh 102 [some (.ref c), some (.int v1), some (.int v2), some (.int v3), some (.ref v4), some (.int v5), some (.int v6), some (.int s0)] [.int r11] hp (some (.int res)) hp
      refine Fx.run [(.aload 4, 2, 4, 0, .null), (.iload 5, 2, 5, 0, .null)] 106 (by decide +kernel) ?_
      show Fx q_TJ_latest 4 sh 106 [some (.ref c), some (.int v1), some (.int v2), some (.int v3), some (.ref v4), some (.int v5), some (.int v6), some (.int s0)] [.int v5, .ref v4, .int r11] hp (some (.int res)) hp
      replace hf := bnd hf
      obtain ⟨r12, hr12, hf⟩ := hf
      refine Fx.callV (rr := (some (.int r12))) (hp1 := hp) [.int v5] [.int r11] lk_8_231 (by decide +kernel) (t_Ro_startPlace sh v4 (hv4) hp v5 r12 hr12) ⟨Nat.le_of_ble_eq_true rfl, Nat.le_of_ble_eq_true rfl⟩ (hv4).1 (by decide) rfl (Nat.le_of_ble_eq_true rfl) ?_
      show Fx q_TJ_latest 4 sh 109 [some (.ref c), some (.int v1), some (.int v2), some (.int v3), some (.ref v4), some (.int v5), some (.int v6), some (.int s0)] [.int r12, .int r11] hp (some (.int res)) hp
      refine Fx.icmp_le (7) 116 112 (by decide +kernel) (fun b13 => ?_) (fun b13 => ?_)
      · replace hf := ifp b13 hf
        refine Fx.run [(.iinc 6 1, 3, 6, 0, .int 1)] 119 (by decide +kernel) ?_
        show Fx q_TJ_latest 4 sh 119 [some (.ref c), some (.int v1), some (.int v2), some (.int v3), some (.ref v4), some (.int v5), some (.int (v6 + 1)), some (.int s0)] [] hp (some (.int res)) hp
        refine Fx.goto (-77) 42 (by decide +kernel) ?_
        obtain rfl := Option.some.inj hf
        have hk : Fx q_TJ_latest 4 sh 42 [some (.ref c), some (.int v1), some (.int v2), some (.int v3), some (.ref v4), some (.int v5), some (.int (v6 + 1)), none] [] hp (some (.int res)) hp := hk
        exact Fx.le hk (And.intro rfl (And.intro rfl (And.intro rfl (And.intro rfl (And.intro rfl (And.intro rfl (And.intro rfl trivial)))))))
      · replace hf := ifn b13 hf
        refine Fx.run [(.iload 6, 2, 6, 0, .null), (.istore 5, 2, 5, 0, .null), (.iinc 6 1, 3, 6, 0, .int 1)] 119 (by decide +kernel) ?_
        show Fx q_TJ_latest 4 sh 119 [some (.ref c), some (.int v1), some (.int v2), some (.int v3), some (.ref v4), some (.int v6), some (.int (v6 + 1)), some (.int s0)] [] hp (some (.int res)) hp
        refine Fx.goto (-77) 42 (by decide +kernel) ?_
        obtain rfl := Option.some.inj hf
        have hk : Fx q_TJ_latest 4 sh 42 [some (.ref c), some (.int v1), some (.int v2), some (.int v3), some (.ref v4), some (.int v6), some (.int (v6 + 1)), none] [] hp (some (.int res)) hp := hk
        exact Fx.le hk (And.intro rfl (And.intro rfl (And.intro rfl (And.intro rfl (And.intro rfl (And.intro rfl (And.intro rfl trivial)))))))
set_option maxHeartbeats 4000000 in
set_option maxRecDepth 20000 in
theorem t_TJ_latest_l42 (sh : Shp) (c : Nat) (hS : S_TJ sh c) (hp : HP) (v1 : Int32) (v2 : Int32) (v3 : Int32) (v4 : Nat) (hv4 : S_Ro sh v4) (res : Int32) : ∀ (s : (Int32 × Int32)) (t : Int32), f_TJ_latest_l42 c hp v1 v2 v3 v4 s = some t → (fun v => v = res) t → P_TJ_latest_42 sh c hp v1 v2 v3 v4 res s := by
  refine loop_ind (P_TJ_latest_42 sh c hp v1 v2 v3 v4 res) (fun v => v = res) ?_
  intro s t hf hk
  obtain ⟨v5, v6⟩ := s
  replace hf : f_TJ_latest_b42 c hp v1 v2 v3 v4 v5 v6 = some t := hf
  show Fx q_TJ_latest 4 sh 42 [some (.ref c), some (.int v1), some (.int v2), some (.int v3), some (.ref v4), some (.int v5), some (.int v6), none] [] hp (some (.int res)) hp
  unfold f_TJ_latest_b42 at hf
  refine Fx.run [(.iload 6, 2, 6, 0, .null), (.aload 4, 2, 4, 0, .null), (.getfield 88, 3, 4, 5, .null)] 49 (by decide +kernel) ?_
  show isK sh v4 4 ∧ Fx q_TJ_latest 4 sh 49 [some (.ref c), some (.int v1), some (.int v2), some (.int v3), some (.ref v4), some (.int v5), some (.int v6), none] [.int (hp.1 v4 5), .int v6] hp (some (.int res)) hp
  refine ⟨hv4.1, ?_⟩
  refine Fx.icmp_ge (73) 122 52 (by decide +kernel) (fun b6 => ?_) (fun b6 => ?_)
  · replace hf := ifp b6 hf
    replace hf := mpd hf
    obtain ⟨t, hf, rfl⟩ := hf
    refine Fx.run [(.iload 5, 2, 5, 0, .null)] 124 (by decide +kernel) ?_
    show Fx q_TJ_latest 4 sh 124 [some (.ref c), some (.int v1), some (.int v2), some (.int v3), some (.ref v4), some (.int v5), some (.int v6), none] [.int v5] hp (some (.int res)) hp
    obtain rfl := Option.some.inj hf
    have hk : v5 = res := hk
    subst hk
    exact Fx.iret (by decide +kernel) rfl
  · replace hf := ifn b6 hf
    refine Fx.run [(.aload_n 0, 1, 0, 0, .null), (.getfield 12, 3, 8, 0, .ref 1), (.iload_n 1, 1, 1, 0, .null), (.iload_n 2, 1, 2, 0, .null), (.iload 6, 2, 6, 0, .null)] 60 (by decide +kernel) ?_
    show isK sh c 8 ∧ Fx q_TJ_latest 4 sh 60 [some (.ref c), some (.int v1), some (.int v2), some (.int v3), some (.ref v4), some (.int v5), some (.int v6), none] [.int v6, .int v2, .int v1, .ref (c + 1)] hp (some (.int res)) hp
    refine ⟨hS.1, ?_⟩
    replace hf := bnd hf
    obtain ⟨r7, hr7, hf⟩ := hf
    refine Fx.callV (rr := (some (.int r7))) (hp1 := hp) [.int v1, .int v2, .int v6] [] lk_8_234 (by decide +kernel) (t_St_keysFit sh (c + 1) (hS.2.1) hp v1 v2 v6 r7 hr7) ⟨Nat.le_of_ble_eq_true rfl, Nat.le_of_ble_eq_true rfl⟩ (hS.2.1).1 (by decide) rfl (Nat.le_of_ble_eq_true rfl) ?_
    show Fx q_TJ_latest 4 sh 63 [some (.ref c), some (.int v1), some (.int v2), some (.int v3), some (.ref v4), some (.int v5), some (.int v6), none] [.int r7] hp (some (.int res)) hp
    refine Fx.if_eq (18) 81 66 (by decide +kernel) (fun b8 => ?_) (fun b8 => ?_)
    · replace hf := ifp b8 hf
      refine Fx.run [(.iconst 0, 1, 0, 0, .int 0)] 82 (by decide +kernel) ?_
      show Fx q_TJ_latest 4 sh 82 [some (.ref c), some (.int v1), some (.int v2), some (.int v3), some (.ref v4), some (.int v5), some (.int v6), none] [.int 0] hp (some (.int res)) hp
      have hl := t_TJ_latest_j82 sh c hS hp v1 v2 v3 v4 (hv4) v5 v6 0 res _ hf hk
      exact Fx.le hl (And.intro rfl (And.intro rfl (And.intro rfl (And.intro rfl (And.intro rfl (And.intro rfl (And.intro rfl trivial)))))))
    · replace hf := ifn b8 hf
      refine Fx.run [(.aload 4, 2, 4, 0, .null), (.iload 6, 2, 6, 0, .null)] 70 (by decide +kernel) ?_
      show Fx q_TJ_latest 4 sh 70 [some (.ref c), some (.int v1), some (.int v2), some (.int v3), some (.ref v4), some (.int v5), some (.int v6), none] [.int v6, .ref v4] hp (some (.int res)) hp
      replace hf := bnd hf
      obtain ⟨r14, hr14, hf⟩ := hf
      refine Fx.callV (rr := (some (.int r14))) (hp1 := hp) [.int v6] [] lk_8_231 (by decide +kernel) (t_Ro_startPlace sh v4 (hv4) hp v6 r14 hr14) ⟨Nat.le_of_ble_eq_true rfl, Nat.le_of_ble_eq_true rfl⟩ (hv4).1 (by decide) rfl (Nat.le_of_ble_eq_true rfl) ?_
      show Fx q_TJ_latest 4 sh 73 [some (.ref c), some (.int v1), some (.int v2), some (.int v3), some (.ref v4), some (.int v5), some (.int v6), none] [.int r14] hp (some (.int res)) hp
      refine Fx.run [(.iload_n 3, 1, 3, 0, .null)] 74 (by decide +kernel) ?_
      show Fx q_TJ_latest 4 sh 74 [some (.ref c), some (.int v1), some (.int v2), some (.int v3), some (.ref v4), some (.int v5), some (.int v6), none] [.int v3, .int r14] hp (some (.int res)) hp
      refine Fx.icmp_gt (7) 81 77 (by decide +kernel) (fun b15 => ?_) (fun b15 => ?_)
      · replace hf := ifp b15 hf
        refine Fx.run [(.iconst 0, 1, 0, 0, .int 0)] 82 (by decide +kernel) ?_
        show Fx q_TJ_latest 4 sh 82 [some (.ref c), some (.int v1), some (.int v2), some (.int v3), some (.ref v4), some (.int v5), some (.int v6), none] [.int 0] hp (some (.int res)) hp
        have hl := t_TJ_latest_j82 sh c hS hp v1 v2 v3 v4 (hv4) v5 v6 0 res _ hf hk
        exact Fx.le hl (And.intro rfl (And.intro rfl (And.intro rfl (And.intro rfl (And.intro rfl (And.intro rfl (And.intro rfl trivial)))))))
      · replace hf := ifn b15 hf
        refine Fx.run [(.iconst 1, 1, 0, 0, .int 1)] 78 (by decide +kernel) ?_
        show Fx q_TJ_latest 4 sh 78 [some (.ref c), some (.int v1), some (.int v2), some (.int v3), some (.ref v4), some (.int v5), some (.int v6), none] [.int 1] hp (some (.int res)) hp
        refine Fx.goto (4) 82 (by decide +kernel) ?_
        have hl := t_TJ_latest_j82 sh c hS hp v1 v2 v3 v4 (hv4) v5 v6 1 res _ hf hk
        exact Fx.le hl (And.intro rfl (And.intro rfl (And.intro rfl (And.intro rfl (And.intro rfl (And.intro rfl (And.intro rfl trivial)))))))
set_option maxHeartbeats 4000000 in
set_option maxRecDepth 20000 in
theorem t_TJ_latest (sh : Shp) (c : Nat) (hS : S_TJ sh c) (hp : HP) (v1 : Int32) (v2 : Int32) (res : Int32) (hf : f_TJ_latest c hp v1 v2 = some res) : Ex 4 q_TJ_latest sh [.ref c, .int v1, .int v2] hp (some (.int res)) hp := by
  refine Ex.of [some (.ref c), some (.int v1), some (.int v2), none, none, none, none, none] rfl (Nat.le_of_ble_eq_true rfl) (by decide +kernel) rfl ?_
  obtain ⟨t, hk⟩ : ∃ t, t = res := ⟨res, rfl⟩
  rw [← hk] at hf
  unfold f_TJ_latest at hf
  refine Fx.run [(.aload_n 0, 1, 0, 0, .null), (.iload_n 1, 1, 1, 0, .null), (.iload_n 2, 1, 2, 0, .null)] 3 (by decide +kernel) ?_
  show Fx q_TJ_latest 4 sh 3 [some (.ref c), some (.int v1), some (.int v2), none, none, none, none, none] [.int v2, .int v1, .ref c] hp (some (.int res)) hp
  replace hf := bnd hf
  obtain ⟨r1, hr1, hf⟩ := hf
  refine Fx.callV (rr := (some (.int r1))) (hp1 := hp) [.int v1, .int v2] [] lk_8_189 (by decide +kernel) (t_TJ_isRow sh c (hS) hp v1 v2 r1 hr1) ⟨Nat.le_of_ble_eq_true rfl, Nat.le_of_ble_eq_true rfl⟩ (hS).1 (by decide) rfl (Nat.le_of_ble_eq_true rfl) ?_
  show Fx q_TJ_latest 4 sh 6 [some (.ref c), some (.int v1), some (.int v2), none, none, none, none, none] [.int r1] hp (some (.int res)) hp
  refine Fx.if_ne (5) 11 9 (by decide +kernel) (fun b2 => ?_) (fun b2 => ?_)
  · replace hf := ifn b2 hf
    refine Fx.run [(.aload_n 0, 1, 0, 0, .null), (.getfield 12, 3, 8, 0, .ref 1), (.iload_n 1, 1, 1, 0, .null)] 16 (by decide +kernel) ?_
    show isK sh c 8 ∧ Fx q_TJ_latest 4 sh 16 [some (.ref c), some (.int v1), some (.int v2), none, none, none, none, none] [.int v1, .ref (c + 1)] hp (some (.int res)) hp
    refine ⟨hS.1, ?_⟩
    replace hf := bnd hf
    obtain ⟨r3, hr3, hf⟩ := hf
    refine Fx.callV (rr := (some (.ref r3))) (hp1 := hp) [.int v1] [] lk_8_95 (by decide +kernel) (t_St_rowsOf sh (c + 1) (hS.2.1) hp v1 r3 hr3) ⟨Nat.le_of_ble_eq_true rfl, Nat.le_of_ble_eq_true rfl⟩ (hS.2.1).1 (by decide) rfl (Nat.le_of_ble_eq_true rfl) ?_
    show Fx q_TJ_latest 4 sh 19 [some (.ref c), some (.int v1), some (.int v2), none, none, none, none, none] [.ref r3] hp (some (.int res)) hp
    refine Fx.run [(.iload_n 2, 1, 2, 0, .null)] 20 (by decide +kernel) ?_
    show Fx q_TJ_latest 4 sh 20 [some (.ref c), some (.int v1), some (.int v2), none, none, none, none, none] [.int v2, .ref r3] hp (some (.int res)) hp
    replace hf := bnd hf
    obtain ⟨r4, hr4, hf⟩ := hf
    refine Fx.callV (rr := (some (.int r4))) (hp1 := hp) [.int v2] [] lk_8_231 (by decide +kernel) (t_Ro_startPlace sh r3 ((rowsOf_S hS.2.1 hr3)) hp v2 r4 hr4) ⟨Nat.le_of_ble_eq_true rfl, Nat.le_of_ble_eq_true rfl⟩ ((rowsOf_S hS.2.1 hr3)).1 (by decide) rfl (Nat.le_of_ble_eq_true rfl) ?_
    show Fx q_TJ_latest 4 sh 23 [some (.ref c), some (.int v1), some (.int v2), none, none, none, none, none] [.int r4] hp (some (.int res)) hp
    refine Fx.run [(.istore_n 3, 1, 3, 0, .null), (.aload_n 0, 1, 0, 0, .null), (.getfield 12, 3, 8, 0, .ref 1), (.iconst 1, 1, 0, 0, .int 1), (.iload_n 1, 1, 1, 0, .null), (.isub, 1, 0, 0, .null)] 31 (by decide +kernel) ?_
    show isK sh c 8 ∧ Fx q_TJ_latest 4 sh 31 [some (.ref c), some (.int v1), some (.int v2), some (.int r4), none, none, none, none] [.int (1 - v1), .ref (c + 1)] hp (some (.int res)) hp
    refine ⟨hS.1, ?_⟩
    replace hf := bnd hf
    obtain ⟨r5, hr5, hf⟩ := hf
    refine Fx.callV (rr := (some (.ref r5))) (hp1 := hp) [.int (1 - v1)] [] lk_8_95 (by decide +kernel) (t_St_rowsOf sh (c + 1) (hS.2.1) hp (1 - v1) r5 hr5) ⟨Nat.le_of_ble_eq_true rfl, Nat.le_of_ble_eq_true rfl⟩ (hS.2.1).1 (by decide) rfl (Nat.le_of_ble_eq_true rfl) ?_
    show Fx q_TJ_latest 4 sh 34 [some (.ref c), some (.int v1), some (.int v2), some (.int r4), none, none, none, none] [.ref r5] hp (some (.int res)) hp
    refine Fx.run [(.astore 4, 2, 4, 0, .null), (.iconst (-1), 1, 0, 0, .int (-1)), (.istore 5, 2, 5, 0, .null), (.iconst 0, 1, 0, 0, .int 0), (.istore 6, 2, 6, 0, .null)] 42 (by decide +kernel) ?_
    show Fx q_TJ_latest 4 sh 42 [some (.ref c), some (.int v1), some (.int v2), some (.int r4), some (.ref r5), some (.int (-1)), some (.int 0), none] [] hp (some (.int res)) hp
    have hl := t_TJ_latest_l42 sh c hS hp v1 v2 r4 r5 ((rowsOf_S hS.2.1 hr5)) res ((-1), 0) _ hf hk
    have hl : Fx q_TJ_latest 4 sh 42 [some (.ref c), some (.int v1), some (.int v2), some (.int r4), some (.ref r5), some (.int (-1)), some (.int 0), none] [] hp (some (.int res)) hp := hl
    exact Fx.le hl (And.intro rfl (And.intro rfl (And.intro rfl (And.intro rfl (And.intro rfl (And.intro rfl (And.intro rfl trivial)))))))
  · replace hf := ifp b2 hf
    refine Fx.run [(.iconst (-1), 1, 0, 0, .int (-1))] 10 (by decide +kernel) ?_
    show Fx q_TJ_latest 4 sh 10 [some (.ref c), some (.int v1), some (.int v2), none, none, none, none, none] [.int (-1)] hp (some (.int res)) hp
    obtain rfl := Option.some.inj hf
    have hk : (-1) = res := hk
    subst hk
    exact Fx.iret (by decide +kernel) rfl
abbrev P_St_hasPartner_14 (sh : Shp) (c : Nat) (hp : HP) (v1 : Int32) (v2 : Int32) (v3 : Int32) (res : Int32) : (Int32) → Prop := fun s => Fx q_St_hasPartner 5 sh 14 [some (.ref c), some (.int v1), some (.int v2), some (.int v3), some (.int s)] [] hp (some (.int res)) hp
set_option maxHeartbeats 4000000 in
set_option maxRecDepth 20000 in
theorem t_St_hasPartner_l14 (sh : Shp) (c : Nat) (hS : S_St sh c) (hp : HP) (v1 : Int32) (v2 : Int32) (v3 : Int32) (res : Int32) : ∀ (s : (Int32)) (t : Int32), f_St_hasPartner_l14 c hp v1 v2 v3 s = some t → (fun v => v = res) t → P_St_hasPartner_14 sh c hp v1 v2 v3 res s := by
  refine loop_ind (P_St_hasPartner_14 sh c hp v1 v2 v3 res) (fun v => v = res) ?_
  intro s t hf hk
  revert hf hk; revert s; intro v4 hf hk
  replace hf : f_St_hasPartner_b14 c hp v1 v2 v3 v4 = some t := hf
  show Fx q_St_hasPartner 5 sh 14 [some (.ref c), some (.int v1), some (.int v2), some (.int v3), some (.int v4)] [] hp (some (.int res)) hp
  unfold f_St_hasPartner_b14 at hf
  refine Fx.run [(.iload 4, 2, 4, 0, .null), (.iload_n 3, 1, 3, 0, .null)] 17 (by decide +kernel) ?_
  show Fx q_St_hasPartner 5 sh 17 [some (.ref c), some (.int v1), some (.int v2), some (.int v3), some (.int v4)] [.int v3, .int v4] hp (some (.int res)) hp
  refine Fx.icmp_ge (22) 39 20 (by decide +kernel) (fun b2 => ?_) (fun b2 => ?_)
  · replace hf := ifp b2 hf
    replace hf := mpd hf
    obtain ⟨t, hf, rfl⟩ := hf
    refine Fx.run [(.iconst 0, 1, 0, 0, .int 0)] 40 (by decide +kernel) ?_
    show Fx q_St_hasPartner 5 sh 40 [some (.ref c), some (.int v1), some (.int v2), some (.int v3), some (.int v4)] [.int 0] hp (some (.int res)) hp
    obtain rfl := Option.some.inj hf
    have hk : 0 = res := hk
    subst hk
    exact Fx.zret (by decide +kernel) rfl (Or.inl rfl)
  · replace hf := ifn b2 hf
    refine Fx.run [(.aload_n 0, 1, 0, 0, .null), (.iload_n 1, 1, 1, 0, .null), (.iload_n 2, 1, 2, 0, .null), (.iload 4, 2, 4, 0, .null)] 25 (by decide +kernel) ?_
    show Fx q_St_hasPartner 5 sh 25 [some (.ref c), some (.int v1), some (.int v2), some (.int v3), some (.int v4)] [.int v4, .int v2, .int v1, .ref c] hp (some (.int res)) hp
    replace hf := bnd hf
    obtain ⟨r3, hr3, hf⟩ := hf
    refine Fx.callV (rr := (some (.int r3))) (hp1 := hp) [.int v1, .int v2, .int v4] [] lk_5_98 (by decide +kernel) (t_St_arePartners sh c (hS) hp v1 v2 v4 r3 hr3) ⟨Nat.le_of_ble_eq_true rfl, Nat.le_of_ble_eq_true rfl⟩ (hS).1 (by decide) rfl (Nat.le_of_ble_eq_true rfl) ?_
    show Fx q_St_hasPartner 5 sh 28 [some (.ref c), some (.int v1), some (.int v2), some (.int v3), some (.int v4)] [.int r3] hp (some (.int res)) hp
    refine Fx.if_eq (5) 33 31 (by decide +kernel) (fun b4 => ?_) (fun b4 => ?_)
    · replace hf := ifp b4 hf
      refine Fx.run [(.iinc 4 1, 3, 4, 0, .int 1)] 36 (by decide +kernel) ?_
      show Fx q_St_hasPartner 5 sh 36 [some (.ref c), some (.int v1), some (.int v2), some (.int v3), some (.int (v4 + 1))] [] hp (some (.int res)) hp
      refine Fx.goto (-22) 14 (by decide +kernel) ?_
      obtain rfl := Option.some.inj hf
      have hk : Fx q_St_hasPartner 5 sh 14 [some (.ref c), some (.int v1), some (.int v2), some (.int v3), some (.int (v4 + 1))] [] hp (some (.int res)) hp := hk
      exact Fx.le hk (And.intro rfl (And.intro rfl (And.intro rfl (And.intro rfl (And.intro rfl trivial)))))
    · replace hf := ifn b4 hf
      replace hf := mpd hf
      obtain ⟨t, hf, rfl⟩ := hf
      refine Fx.run [(.iconst 1, 1, 0, 0, .int 1)] 32 (by decide +kernel) ?_
      show Fx q_St_hasPartner 5 sh 32 [some (.ref c), some (.int v1), some (.int v2), some (.int v3), some (.int v4)] [.int 1] hp (some (.int res)) hp
      obtain rfl := Option.some.inj hf
      have hk : 1 = res := hk
      subst hk
      exact Fx.zret (by decide +kernel) rfl (Or.inr rfl)
set_option maxHeartbeats 4000000 in
set_option maxRecDepth 20000 in
theorem t_St_hasPartner (sh : Shp) (c : Nat) (hS : S_St sh c) (hp : HP) (v1 : Int32) (v2 : Int32) (res : Int32) (hf : f_St_hasPartner c hp v1 v2 = some res) : Ex 5 q_St_hasPartner sh [.ref c, .int v1, .int v2] hp (some (.int res)) hp := by
  refine Ex.of [some (.ref c), some (.int v1), some (.int v2), none, none] rfl (Nat.le_of_ble_eq_true rfl) (by decide +kernel) rfl ?_
  obtain ⟨t, hk⟩ : ∃ t, t = res := ⟨res, rfl⟩
  rw [← hk] at hf
  unfold f_St_hasPartner at hf
  refine Fx.run [(.aload_n 0, 1, 0, 0, .null), (.iconst 1, 1, 0, 0, .int 1), (.iload_n 1, 1, 1, 0, .null), (.isub, 1, 0, 0, .null)] 4 (by decide +kernel) ?_
  show Fx q_St_hasPartner 5 sh 4 [some (.ref c), some (.int v1), some (.int v2), none, none] [.int (1 - v1), .ref c] hp (some (.int res)) hp
  replace hf := bnd hf
  obtain ⟨r1, hr1, hf⟩ := hf
  refine Fx.callV (rr := (some (.ref r1))) (hp1 := hp) [.int (1 - v1)] [] lk_5_66 (by decide +kernel) (t_St_rowsOf sh c (hS) hp (1 - v1) r1 hr1) ⟨Nat.le_of_ble_eq_true rfl, Nat.le_of_ble_eq_true rfl⟩ (hS).1 (by decide) rfl (Nat.le_of_ble_eq_true rfl) ?_
  show Fx q_St_hasPartner 5 sh 7 [some (.ref c), some (.int v1), some (.int v2), none, none] [.ref r1] hp (some (.int res)) hp
  refine Fx.run [(.getfield 95, 3, 4, 5, .null), (.istore_n 3, 1, 3, 0, .null), (.iconst 0, 1, 0, 0, .int 0), (.istore 4, 2, 4, 0, .null)] 14 (by decide +kernel) ?_
  show isK sh r1 4 ∧ Fx q_St_hasPartner 5 sh 14 [some (.ref c), some (.int v1), some (.int v2), some (.int (hp.1 r1 5)), some (.int 0)] [] hp (some (.int res)) hp
  refine ⟨(rowsOf_S hS hr1).1, ?_⟩
  have hl := t_St_hasPartner_l14 sh c hS hp v1 v2 (hp.1 r1 5) res 0 _ hf hk
  have hl : Fx q_St_hasPartner 5 sh 14 [some (.ref c), some (.int v1), some (.int v2), some (.int (hp.1 r1 5)), some (.int 0)] [] hp (some (.int res)) hp := hl
  exact Fx.le hl (And.intro rfl (And.intro rfl (And.intro rfl (And.intro rfl (And.intro rfl trivial)))))
