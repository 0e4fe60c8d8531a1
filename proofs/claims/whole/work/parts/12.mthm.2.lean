set_option maxHeartbeats 4000000 in
set_option maxRecDepth 20000 in
theorem t_Mo_goes_j77 (sh : Shp) (c : Nat) (hS : S_Mo sh c) (hp : HP)   (res : HP) (t : HP) (hf : f_Mo_goes_j77 c hp   = some t) (hk : (fun v => v = res) t) : Fx q_Mo_goes 8 sh 77 [some (.ref c), none] [] hp none res := by
  unfold f_Mo_goes_j77 at hf
  refine Fx.run [(.aload_n 0, 1, 0, 0, .null)] 78 (by decide +kernel) ?_
  show Fx q_Mo_goes 8 sh 78 [some (.ref c), none] [.ref c] hp none res
  replace hf := bnd hf
  obtain ⟨h10, hr9, hf⟩ := hf
  refine Fx.callV (rr := none) (hp1 := h10) [] [] lk_9_143 (by decide +kernel) (t_Mo_looksAtHeld sh c (hS) hp h10 hr9) ⟨Nat.le_of_ble_eq_true rfl, Nat.le_of_ble_eq_true rfl⟩ (hS).1 (by decide) rfl (Nat.le_of_ble_eq_true rfl) ?_
  show Fx q_Mo_goes 8 sh 81 [some (.ref c), none] [] h10 none res
  refine Fx.run [(.aload_n 0, 1, 0, 0, .null), (.getfield 9, 3, 9, 0, .ref 1), (.sipush 615, 3, 0, 0, .int 615), (.iaload, 1, 4100, 0, .null), (.aload_n 0, 1, 0, 0, .null), (.getfield 9, 3, 9, 0, .ref 1), (.sipush 616, 3, 0, 0, .int 616), (.iaload, 1, 4100, 0, .null)] 97 (by decide +kernel) ?_
  show isK sh c 9 ∧ (isA sh (c + 1) 10 4100 ∧ inb 615 4100) ∧ isK sh c 9 ∧ (isA sh (c + 1) 10 4100 ∧ inb 616 4100) ∧ Fx q_Mo_goes 8 sh 97 [some (.ref c), none] [.int (h10.1 (c + 1) (ix 616)), .int (h10.1 (c + 1) (ix 615))] h10 none res
  refine ⟨hS.1, ⟨hS.2.1, (by decide)⟩, hS.1, ⟨hS.2.1, (by decide)⟩, ?_⟩
  refine Fx.icmp_ne (12) 109 100 (by decide +kernel) (fun b11 => ?_) (fun b11 => ?_)
  · replace hf := ifn b11 hf
    obtain rfl := Option.some.inj hf
    have hk : h10 = res := hk
    subst hk
    exact Fx.vret (by decide +kernel) rfl
  · replace hf := ifp b11 hf
    refine Fx.run [(.aload_n 0, 1, 0, 0, .null), (.getfield 9, 3, 9, 0, .ref 1), (.sipush 614, 3, 0, 0, .int 614), (.iconst 0, 1, 0, 0, .int 0), (.iastore, 1, 4100, 0, .null)] 109 (by decide +kernel) ?_
    show isK sh c 9 ∧ (isA sh (c + 1) 10 4100 ∧ inb 614 4100) ∧ Fx q_Mo_goes 8 sh 109 [some (.ref c), none] [] (upI h10 (c + 1) (ix 614) 0) none res
    refine ⟨hS.1, ⟨hS.2.1, (by decide)⟩, ?_⟩
    obtain rfl := Option.some.inj hf
    have hk : (upI h10 (c + 1) (ix 614) 0) = res := hk
    subst hk
    exact Fx.vret (by decide +kernel) rfl
set_option maxHeartbeats 4000000 in
set_option maxRecDepth 20000 in
theorem t_Mo_goes (sh : Shp) (c : Nat) (hS : S_Mo sh c) (hp : HP)  (res : HP) (hf : f_Mo_goes c hp  = some res) : Ex 8 q_Mo_goes sh [.ref c] hp none res := by
  refine Ex.of [some (.ref c), none] rfl (Nat.le_of_ble_eq_true rfl) (by decide +kernel) rfl ?_
  obtain ⟨t, hk⟩ : ∃ t, t = res := ⟨res, rfl⟩
  rw [← hk] at hf
  unfold f_Mo_goes at hf
  replace hf := gd hf
  obtain ⟨g1, hf⟩ := hf
  refine Fx.run [(.aload_n 0, 1, 0, 0, .null), (.getfield 9, 3, 9, 0, .ref 1), (.sipush 621, 3, 0, 0, .int 621), (.aload_n 0, 1, 0, 0, .null), (.getfield 9, 3, 9, 0, .ref 1), (.sipush 615, 3, 0, 0, .int 615), (.iaload, 1, 4100, 0, .null), (.iadd, 1, 0, 0, .null), (.iaload, 1, 4100, 0, .null), (.istore_n 1, 1, 1, 0, .null), (.aload_n 0, 1, 0, 0, .null), (.getfield 9, 3, 9, 0, .ref 1), (.sipush 615, 3, 0, 0, .int 615), (.dup2, 1, 0, 0, .null), (.iaload, 1, 4100, 0, .null), (.iconst 1, 1, 0, 0, .int 1), (.iadd, 1, 0, 0, .null), (.iastore, 1, 4100, 0, .null), (.aload_n 0, 1, 0, 0, .null), (.getfield 9, 3, 9, 0, .ref 1), (.sipush 620, 3, 0, 0, .int 620), (.aload_n 0, 1, 0, 0, .null), (.iload_n 1, 1, 1, 0, .null)] 39 (by decide +kernel) ?_
  show isK sh c 9 ∧ isK sh c 9 ∧ (isA sh (c + 1) 10 4100 ∧ inb 615 4100) ∧ (isA sh (c + 1) 10 4100 ∧ inb (621 + (hp.1 (c + 1) (ix 615))) 4100) ∧ isK sh c 9 ∧ (isA sh (c + 1) 10 4100 ∧ inb 615 4100) ∧ (isA sh (c + 1) 10 4100 ∧ inb 615 4100) ∧ isK sh c 9 ∧ Fx q_Mo_goes 8 sh 39 [some (.ref c), some (.int (hp.1 (c + 1) (ix (621 + (hp.1 (c + 1) (ix 615))))))] [.int (hp.1 (c + 1) (ix (621 + (hp.1 (c + 1) (ix 615))))), .ref c, .int 620, .ref (c + 1)] (upI hp (c + 1) (ix 615) ((hp.1 (c + 1) (ix 615)) + 1)) none res
  refine ⟨hS.1, hS.1, ⟨hS.2.1, (by decide)⟩, ⟨hS.2.1, g1⟩, hS.1, ⟨hS.2.1, (by decide)⟩, ⟨hS.2.1, (by decide)⟩, hS.1, ?_⟩
  replace hf := bnd hf
  obtain ⟨r2, hr2, hf⟩ := hf
  refine Fx.callV (rr := (some (.int r2))) (hp1 := (upI hp (c + 1) (ix 615) ((hp.1 (c + 1) (ix 615)) + 1))) [.int (hp.1 (c + 1) (ix (621 + (hp.1 (c + 1) (ix 615)))))] [.int 620, .ref (c + 1)] lk_9_121 (by decide +kernel) (t_Mo_placeOf sh c (hS) (upI hp (c + 1) (ix 615) ((hp.1 (c + 1) (ix 615)) + 1)) (hp.1 (c + 1) (ix (621 + (hp.1 (c + 1) (ix 615))))) r2 hr2) ⟨Nat.le_of_ble_eq_true rfl, Nat.le_of_ble_eq_true rfl⟩ (hS).1 (by decide) rfl (Nat.le_of_ble_eq_true rfl) ?_
  show Fx q_Mo_goes 8 sh 42 [some (.ref c), some (.int (hp.1 (c + 1) (ix (621 + (hp.1 (c + 1) (ix 615))))))] [.int r2, .int 620, .ref (c + 1)] (upI hp (c + 1) (ix 615) ((hp.1 (c + 1) (ix 615)) + 1)) none res
  refine Fx.run [(.iastore, 1, 4100, 0, .null), (.iload_n 1, 1, 1, 0, .null)] 44 (by decide +kernel) ?_
  show (isA sh (c + 1) 10 4100 ∧ inb 620 4100) ∧ Fx q_Mo_goes 8 sh 44 [some (.ref c), some (.int (hp.1 (c + 1) (ix (621 + (hp.1 (c + 1) (ix 615))))))] [.int (hp.1 (c + 1) (ix (621 + (hp.1 (c + 1) (ix 615)))))] (upI (upI hp (c + 1) (ix 615) ((hp.1 (c + 1) (ix 615)) + 1)) (c + 1) (ix 620) r2) none res
  refine ⟨⟨hS.2.1, (by decide)⟩, ?_⟩
  replace hf := bnd hf
  obtain ⟨r3, hr3, hf⟩ := hf
  refine Fx.callS (rr := (some (.int r3))) (hp1 := (upI (upI hp (c + 1) (ix 615) ((hp.1 (c + 1) (ix 615)) + 1)) (c + 1) (ix 620) r2)) [.int (hp.1 (c + 1) (ix (621 + (hp.1 (c + 1) (ix 615)))))] [] lk_9_111 (by decide +kernel) (t_Mo_isStart sh (upI (upI hp (c + 1) (ix 615) ((hp.1 (c + 1) (ix 615)) + 1)) (c + 1) (ix 620) r2) (hp.1 (c + 1) (ix (621 + (hp.1 (c + 1) (ix 615))))) r3 hr3) ⟨Nat.le_of_ble_eq_true rfl, Nat.le_of_ble_eq_true rfl⟩ rfl (Nat.le_of_ble_eq_true rfl) ?_
  show Fx q_Mo_goes 8 sh 47 [some (.ref c), some (.int (hp.1 (c + 1) (ix (621 + (hp.1 (c + 1) (ix 615))))))] [.int r3] (upI (upI hp (c + 1) (ix 615) ((hp.1 (c + 1) (ix 615)) + 1)) (c + 1) (ix 620) r2) none res
  refine Fx.if_eq (18) 65 50 (by decide +kernel) (fun b4 => ?_) (fun b4 => ?_)
  · replace hf := ifp b4 hf
    refine Fx.run [(.aload_n 0, 1, 0, 0, .null), (.iload_n 1, 1, 1, 0, .null)] 67 (by decide +kernel) ?_
    show Fx q_Mo_goes 8 sh 67 [some (.ref c), some (.int (hp.1 (c + 1) (ix (621 + (hp.1 (c + 1) (ix 615))))))] [.int (hp.1 (c + 1) (ix (621 + (hp.1 (c + 1) (ix 615))))), .ref c] (upI (upI hp (c + 1) (ix 615) ((hp.1 (c + 1) (ix 615)) + 1)) (c + 1) (ix 620) r2) none res
    replace hf := bnd hf
    obtain ⟨r5, hr5, hf⟩ := hf
    refine Fx.callS (rr := (some (.int r5))) (hp1 := (upI (upI hp (c + 1) (ix 615) ((hp.1 (c + 1) (ix 615)) + 1)) (c + 1) (ix 620) r2)) [.int (hp.1 (c + 1) (ix (621 + (hp.1 (c + 1) (ix 615)))))] [.ref c] lk_9_114 (by decide +kernel) (t_Mo_sideOf sh (upI (upI hp (c + 1) (ix 615) ((hp.1 (c + 1) (ix 615)) + 1)) (c + 1) (ix 620) r2) (hp.1 (c + 1) (ix (621 + (hp.1 (c + 1) (ix 615))))) r5 hr5) ⟨Nat.le_of_ble_eq_true rfl, Nat.le_of_ble_eq_true rfl⟩ rfl (Nat.le_of_ble_eq_true rfl) ?_
    show Fx q_Mo_goes 8 sh 70 [some (.ref c), some (.int (hp.1 (c + 1) (ix (621 + (hp.1 (c + 1) (ix 615))))))] [.int r5, .ref c] (upI (upI hp (c + 1) (ix 615) ((hp.1 (c + 1) (ix 615)) + 1)) (c + 1) (ix 620) r2) none res
    refine Fx.run [(.iload_n 1, 1, 1, 0, .null)] 71 (by decide +kernel) ?_
    show Fx q_Mo_goes 8 sh 71 [some (.ref c), some (.int (hp.1 (c + 1) (ix (621 + (hp.1 (c + 1) (ix 615))))))] [.int (hp.1 (c + 1) (ix (621 + (hp.1 (c + 1) (ix 615))))), .int r5, .ref c] (upI (upI hp (c + 1) (ix 615) ((hp.1 (c + 1) (ix 615)) + 1)) (c + 1) (ix 620) r2) none res
    replace hf := bnd hf
    obtain ⟨r6, hr6, hf⟩ := hf
    refine Fx.callS (rr := (some (.int r6))) (hp1 := (upI (upI hp (c + 1) (ix 615) ((hp.1 (c + 1) (ix 615)) + 1)) (c + 1) (ix 620) r2)) [.int (hp.1 (c + 1) (ix (621 + (hp.1 (c + 1) (ix 615)))))] [.int r5, .ref c] lk_9_118 (by decide +kernel) (t_Mo_rowOf sh (upI (upI hp (c + 1) (ix 615) ((hp.1 (c + 1) (ix 615)) + 1)) (c + 1) (ix 620) r2) (hp.1 (c + 1) (ix (621 + (hp.1 (c + 1) (ix 615))))) r6 hr6) ⟨Nat.le_of_ble_eq_true rfl, Nat.le_of_ble_eq_true rfl⟩ rfl (Nat.le_of_ble_eq_true rfl) ?_
    show Fx q_Mo_goes 8 sh 74 [some (.ref c), some (.int (hp.1 (c + 1) (ix (621 + (hp.1 (c + 1) (ix 615))))))] [.int r6, .int r5, .ref c] (upI (upI hp (c + 1) (ix 615) ((hp.1 (c + 1) (ix 615)) + 1)) (c + 1) (ix 620) r2) none res
    replace hf := bnd hf
    obtain ⟨h8, hr7, hf⟩ := hf
    refine Fx.callV (rr := none) (hp1 := h8) [.int r5, .int r6] [] lk_9_155 (by decide +kernel) (t_Mo_ends sh c (hS) (upI (upI hp (c + 1) (ix 615) ((hp.1 (c + 1) (ix 615)) + 1)) (c + 1) (ix 620) r2) r5 r6 h8 hr7) ⟨Nat.le_of_ble_eq_true rfl, Nat.le_of_ble_eq_true rfl⟩ (hS).1 (by decide) rfl (Nat.le_of_ble_eq_true rfl) ?_
    show Fx q_Mo_goes 8 sh 77 [some (.ref c), some (.int (hp.1 (c + 1) (ix (621 + (hp.1 (c + 1) (ix 615))))))] [] h8 none res
    have hl := t_Mo_goes_j77 sh c hS h8   res _ hf hk
    exact Fx.le hl (And.intro rfl trivial)
  · replace hf := ifn b4 hf
    refine Fx.run [(.aload_n 0, 1, 0, 0, .null), (.iload_n 1, 1, 1, 0, .null)] 52 (by decide +kernel) ?_
    show Fx q_Mo_goes 8 sh 52 [some (.ref c), some (.int (hp.1 (c + 1) (ix (621 + (hp.1 (c + 1) (ix 615))))))] [.int (hp.1 (c + 1) (ix (621 + (hp.1 (c + 1) (ix 615))))), .ref c] (upI (upI hp (c + 1) (ix 615) ((hp.1 (c + 1) (ix 615)) + 1)) (c + 1) (ix 620) r2) none res
    replace hf := bnd hf
    obtain ⟨r12, hr12, hf⟩ := hf
    refine Fx.callS (rr := (some (.int r12))) (hp1 := (upI (upI hp (c + 1) (ix 615) ((hp.1 (c + 1) (ix 615)) + 1)) (c + 1) (ix 620) r2)) [.int (hp.1 (c + 1) (ix (621 + (hp.1 (c + 1) (ix 615)))))] [.ref c] lk_9_114 (by decide +kernel) (t_Mo_sideOf sh (upI (upI hp (c + 1) (ix 615) ((hp.1 (c + 1) (ix 615)) + 1)) (c + 1) (ix 620) r2) (hp.1 (c + 1) (ix (621 + (hp.1 (c + 1) (ix 615))))) r12 hr12) ⟨Nat.le_of_ble_eq_true rfl, Nat.le_of_ble_eq_true rfl⟩ rfl (Nat.le_of_ble_eq_true rfl) ?_
    show Fx q_Mo_goes 8 sh 55 [some (.ref c), some (.int (hp.1 (c + 1) (ix (621 + (hp.1 (c + 1) (ix 615))))))] [.int r12, .ref c] (upI (upI hp (c + 1) (ix 615) ((hp.1 (c + 1) (ix 615)) + 1)) (c + 1) (ix 620) r2) none res
    refine Fx.run [(.iload_n 1, 1, 1, 0, .null)] 56 (by decide +kernel) ?_
    show Fx q_Mo_goes 8 sh 56 [some (.ref c), some (.int (hp.1 (c + 1) (ix (621 + (hp.1 (c + 1) (ix 615))))))] [.int (hp.1 (c + 1) (ix (621 + (hp.1 (c + 1) (ix 615))))), .int r12, .ref c] (upI (upI hp (c + 1) (ix 615) ((hp.1 (c + 1) (ix 615)) + 1)) (c + 1) (ix 620) r2) none res
    replace hf := bnd hf
    obtain ⟨r13, hr13, hf⟩ := hf
    refine Fx.callS (rr := (some (.int r13))) (hp1 := (upI (upI hp (c + 1) (ix 615) ((hp.1 (c + 1) (ix 615)) + 1)) (c + 1) (ix 620) r2)) [.int (hp.1 (c + 1) (ix (621 + (hp.1 (c + 1) (ix 615)))))] [.int r12, .ref c] lk_9_118 (by decide +kernel) (t_Mo_rowOf sh (upI (upI hp (c + 1) (ix 615) ((hp.1 (c + 1) (ix 615)) + 1)) (c + 1) (ix 620) r2) (hp.1 (c + 1) (ix (621 + (hp.1 (c + 1) (ix 615))))) r13 hr13) ⟨Nat.le_of_ble_eq_true rfl, Nat.le_of_ble_eq_true rfl⟩ rfl (Nat.le_of_ble_eq_true rfl) ?_
    show Fx q_Mo_goes 8 sh 59 [some (.ref c), some (.int (hp.1 (c + 1) (ix (621 + (hp.1 (c + 1) (ix 615))))))] [.int r13, .int r12, .ref c] (upI (upI hp (c + 1) (ix 615) ((hp.1 (c + 1) (ix 615)) + 1)) (c + 1) (ix 620) r2) none res
    replace hf := bnd hf
    obtain ⟨h15, hr14, hf⟩ := hf
    refine Fx.callV (rr := none) (hp1 := h15) [.int r12, .int r13] [] lk_9_152 (by decide +kernel) (t_Mo_starts sh c (hS) (upI (upI hp (c + 1) (ix 615) ((hp.1 (c + 1) (ix 615)) + 1)) (c + 1) (ix 620) r2) r12 r13 h15 hr14) ⟨Nat.le_of_ble_eq_true rfl, Nat.le_of_ble_eq_true rfl⟩ (hS).1 (by decide) rfl (Nat.le_of_ble_eq_true rfl) ?_
    show Fx q_Mo_goes 8 sh 62 [some (.ref c), some (.int (hp.1 (c + 1) (ix (621 + (hp.1 (c + 1) (ix 615))))))] [] h15 none res
    refine Fx.goto (15) 77 (by decide +kernel) ?_
    have hl := t_Mo_goes_j77 sh c hS h15   res _ hf hk
    exact Fx.le hl (And.intro rfl trivial)
abbrev P_Mo_step_22 (sh : Shp) (c : Nat) (v1 : Int32) (res : (HP × Int32)) : (HP × Int32) → Prop := fun s => Fx q_Mo_step 9 sh 22 [some (.ref c), some (.int v1), some (.int s.2)] [] s.1 (some (.int res.2)) res.1
set_option maxHeartbeats 4000000 in
set_option maxRecDepth 20000 in
theorem t_Mo_step_l22 (sh : Shp) (c : Nat) (hS : S_Mo sh c) (hp : HP) (v1 : Int32) (res : (HP × Int32)) : ∀ (s : (HP × Int32)) (t : (HP × Int32)), f_Mo_step_l22 c hp v1 s = some t → (fun v => v = res) t → P_Mo_step_22 sh c v1 res s := by
  refine loop_ind (P_Mo_step_22 sh c v1 res) (fun v => v = res) ?_
  intro s t hf hk
  obtain ⟨hp, v2⟩ := s
  replace hf : f_Mo_step_b22 c hp v1 v2 = some t := hf
  show Fx q_Mo_step 9 sh 22 [some (.ref c), some (.int v1), some (.int v2)] [] hp (some (.int res.2)) res.1
  unfold f_Mo_step_b22 at hf
  refine Fx.run [(.iload_n 2, 1, 2, 0, .null), (.iload_n 1, 1, 1, 0, .null)] 24 (by decide +kernel) ?_
  show Fx q_Mo_step 9 sh 24 [some (.ref c), some (.int v1), some (.int v2)] [.int v1, .int v2] hp (some (.int res.2)) res.1
  refine Fx.icmp_ge (20) 44 27 (by decide +kernel) (fun b5 => ?_) (fun b5 => ?_)
  · replace hf := ifp b5 hf
    replace hf := mpd hf
    obtain ⟨t, hf, rfl⟩ := hf
    refine Fx.run [(.iload_n 2, 1, 2, 0, .null)] 45 (by decide +kernel) ?_
    show Fx q_Mo_step 9 sh 45 [some (.ref c), some (.int v1), some (.int v2)] [.int v2] hp (some (.int res.2)) res.1
    obtain rfl := Option.some.inj hf
    have hk : (hp, v2) = res := hk
    subst hk
    exact Fx.iret (by decide +kernel) rfl
  · replace hf := ifn b5 hf
    refine Fx.run [(.aload_n 0, 1, 0, 0, .null)] 28 (by decide +kernel) ?_
    show Fx q_Mo_step 9 sh 28 [some (.ref c), some (.int v1), some (.int v2)] [.ref c] hp (some (.int res.2)) res.1
    replace hf := bnd hf
    obtain ⟨r6, hr6, hf⟩ := hf
    refine Fx.callV (rr := (some (.int r6))) (hp1 := hp) [] [] lk_9_80 (by decide +kernel) (t_Mo_isSweeping sh c (hS) hp r6 hr6) ⟨Nat.le_of_ble_eq_true rfl, Nat.le_of_ble_eq_true rfl⟩ (hS).1 (by decide) rfl (Nat.le_of_ble_eq_true rfl) ?_
    show Fx q_Mo_step 9 sh 31 [some (.ref c), some (.int v1), some (.int v2)] [.int r6] hp (some (.int res.2)) res.1
    refine Fx.if_eq (13) 44 34 (by decide +kernel) (fun b7 => ?_) (fun b7 => ?_)
    · replace hf := ifp b7 hf
      replace hf := mpd hf
      obtain ⟨t, hf, rfl⟩ := hf
      refine Fx.run [(.iload_n 2, 1, 2, 0, .null)] 45 (by decide +kernel) ?_
      show Fx q_Mo_step 9 sh 45 [some (.ref c), some (.int v1), some (.int v2)] [.int v2] hp (some (.int res.2)) res.1
      obtain rfl := Option.some.inj hf
      have hk : (hp, v2) = res := hk
      subst hk
      exact Fx.iret (by decide +kernel) rfl
    · replace hf := ifn b7 hf
      refine Fx.run [(.aload_n 0, 1, 0, 0, .null)] 35 (by decide +kernel) ?_
      show Fx q_Mo_step 9 sh 35 [some (.ref c), some (.int v1), some (.int v2)] [.ref c] hp (some (.int res.2)) res.1
      replace hf := bnd hf
      obtain ⟨h9, hr8, hf⟩ := hf
      refine Fx.callV (rr := none) (hp1 := h9) [] [] lk_9_158 (by decide +kernel) (t_Mo_goes sh c (hS) hp h9 hr8) ⟨Nat.le_of_ble_eq_true rfl, Nat.le_of_ble_eq_true rfl⟩ (hS).1 (by decide) rfl (Nat.le_of_ble_eq_true rfl) ?_
      show Fx q_Mo_step 9 sh 38 [some (.ref c), some (.int v1), some (.int v2)] [] h9 (some (.int res.2)) res.1
      refine Fx.run [(.iinc 2 1, 3, 2, 0, .int 1)] 41 (by decide +kernel) ?_
      show Fx q_Mo_step 9 sh 41 [some (.ref c), some (.int v1), some (.int (v2 + 1))] [] h9 (some (.int res.2)) res.1
      refine Fx.goto (-19) 22 (by decide +kernel) ?_
      obtain rfl := Option.some.inj hf
      have hk : Fx q_Mo_step 9 sh 22 [some (.ref c), some (.int v1), some (.int (v2 + 1))] [] h9 (some (.int res.2)) res.1 := hk
      exact Fx.le hk (And.intro rfl (And.intro rfl (And.intro rfl trivial)))
set_option maxHeartbeats 4000000 in
set_option maxRecDepth 20000 in
theorem t_Mo_step (sh : Shp) (c : Nat) (hS : S_Mo sh c) (hp : HP) (v1 : Int32) (res : (HP × Int32)) (hf : f_Mo_step c hp v1 = some res) : Ex 9 q_Mo_step sh [.ref c, .int v1] hp (some (.int res.2)) res.1 := by
  refine Ex.of [some (.ref c), some (.int v1), none] rfl (Nat.le_of_ble_eq_true rfl) (by decide +kernel) rfl ?_
  obtain ⟨t, hk⟩ : ∃ t, t = res := ⟨res, rfl⟩
  rw [← hk] at hf
  unfold f_Mo_step at hf
  refine Fx.run [(.iload_n 1, 1, 1, 0, .null), (.iconst 1, 1, 0, 0, .int 1), (.sipush 160, 3, 0, 0, .int 160)] 5 (by decide +kernel) ?_
  show Fx q_Mo_step 9 sh 5 [some (.ref c), some (.int v1), none] [.int 160, .int 1, .int v1] hp (some (.int res.2)) res.1
  replace hf := bnd hf
  obtain ⟨r1, hr1, hf⟩ := hf
  refine Fx.callS (rr := (some (.int r1))) (hp1 := hp) [.int v1, .int 1, .int 160] [] lk_9_48 (by decide +kernel) (t_Mo_isIn sh hp v1 1 160 r1 hr1) ⟨Nat.le_of_ble_eq_true rfl, Nat.le_of_ble_eq_true rfl⟩ rfl (Nat.le_of_ble_eq_true rfl) ?_
  show Fx q_Mo_step 9 sh 8 [some (.ref c), some (.int v1), none] [.int r1] hp (some (.int res.2)) res.1
  refine Fx.if_eq (10) 18 11 (by decide +kernel) (fun b2 => ?_) (fun b2 => ?_)
  · replace hf := ifp b2 hf
    refine Fx.run [(.iconst (-1), 1, 0, 0, .int (-1))] 19 (by decide +kernel) ?_
    show Fx q_Mo_step 9 sh 19 [some (.ref c), some (.int v1), none] [.int (-1)] hp (some (.int res.2)) res.1
    obtain rfl := Option.some.inj hf
    have hk : (hp, (-1)) = res := hk
    subst hk
    exact Fx.iret (by decide +kernel) rfl
  · replace hf := ifn b2 hf
    refine Fx.run [(.aload_n 0, 1, 0, 0, .null)] 12 (by decide +kernel) ?_
    show Fx q_Mo_step 9 sh 12 [some (.ref c), some (.int v1), none] [.ref c] hp (some (.int res.2)) res.1
    replace hf := bnd hf
    obtain ⟨r3, hr3, hf⟩ := hf
    refine Fx.callV (rr := (some (.int r3))) (hp1 := hp) [] [] lk_9_80 (by decide +kernel) (t_Mo_isSweeping sh c (hS) hp r3 hr3) ⟨Nat.le_of_ble_eq_true rfl, Nat.le_of_ble_eq_true rfl⟩ (hS).1 (by decide) rfl (Nat.le_of_ble_eq_true rfl) ?_
    show Fx q_Mo_step 9 sh 15 [some (.ref c), some (.int v1), none] [.int r3] hp (some (.int res.2)) res.1
    refine Fx.if_ne (5) 20 18 (by decide +kernel) (fun b4 => ?_) (fun b4 => ?_)
    · replace hf := ifn b4 hf
      refine Fx.run [(.iconst 0, 1, 0, 0, .int 0), (.istore_n 2, 1, 2, 0, .null)] 22 (by decide +kernel) ?_
      show Fx q_Mo_step 9 sh 22 [some (.ref c), some (.int v1), some (.int 0)] [] hp (some (.int res.2)) res.1
      have hl := t_Mo_step_l22 sh c hS hp v1 res (hp, 0) _ hf hk
      have hl : Fx q_Mo_step 9 sh 22 [some (.ref c), some (.int v1), some (.int 0)] [] hp (some (.int res.2)) res.1 := hl
      exact Fx.le hl (And.intro rfl (And.intro rfl (And.intro rfl trivial)))
    · replace hf := ifp b4 hf
      refine Fx.run [(.iconst (-1), 1, 0, 0, .int (-1))] 19 (by decide +kernel) ?_
      show Fx q_Mo_step 9 sh 19 [some (.ref c), some (.int v1), none] [.int (-1)] hp (some (.int res.2)) res.1
      obtain rfl := Option.some.inj hf
      have hk : (hp, (-1)) = res := hk
      subst hk
      exact Fx.iret (by decide +kernel) rfl
set_option maxHeartbeats 4000000 in
set_option maxRecDepth 20000 in
theorem t_Mo_leave (sh : Shp) (c : Nat) (hS : S_Mo sh c) (hp : HP)  (res : (HP × Int32)) (hf : f_Mo_leave c hp  = some res) : Ex 2 q_Mo_leave sh [.ref c] hp (some (.int res.2)) res.1 := by
  refine Ex.of [some (.ref c), none] rfl (Nat.le_of_ble_eq_true rfl) (by decide +kernel) rfl ?_
  obtain ⟨t, hk⟩ : ∃ t, t = res := ⟨res, rfl⟩
  rw [← hk] at hf
  unfold f_Mo_leave at hf
  refine Fx.run [(.aload_n 0, 1, 0, 0, .null)] 1 (by decide +kernel) ?_
  show Fx q_Mo_leave 2 sh 1 [some (.ref c), none] [.ref c] hp (some (.int res.2)) res.1
  replace hf := bnd hf
  obtain ⟨r1, hr1, hf⟩ := hf
  refine Fx.callV (rr := (some (.int r1))) (hp1 := hp) [] [] lk_9_80 (by decide +kernel) (t_Mo_isSweeping sh c (hS) hp r1 hr1) ⟨Nat.le_of_ble_eq_true rfl, Nat.le_of_ble_eq_true rfl⟩ (hS).1 (by decide) rfl (Nat.le_of_ble_eq_true rfl) ?_
  show Fx q_Mo_leave 2 sh 4 [some (.ref c), none] [.int r1] hp (some (.int res.2)) res.1
  refine Fx.run [(.istore_n 1, 1, 1, 0, .null), (.aload_n 0, 1, 0, 0, .null), (.getfield 9, 3, 9, 0, .ref 1), (.sipush 614, 3, 0, 0, .int 614), (.iconst 0, 1, 0, 0, .int 0), (.iastore, 1, 4100, 0, .null), (.iload_n 1, 1, 1, 0, .null)] 15 (by decide +kernel) ?_
  show isK sh c 9 ∧ (isA sh (c + 1) 10 4100 ∧ inb 614 4100) ∧ Fx q_Mo_leave 2 sh 15 [some (.ref c), some (.int r1)] [.int r1] (upI hp (c + 1) (ix 614) 0) (some (.int res.2)) res.1
  refine ⟨hS.1, ⟨hS.2.1, (by decide)⟩, ?_⟩
  replace hf := gd hf
  obtain ⟨g2, hf⟩ := hf
  obtain rfl := Option.some.inj hf
  have hk : ((upI hp (c + 1) (ix 614) 0), r1) = res := hk
  subst hk
  exact Fx.zret (by decide +kernel) rfl g2
set_option maxHeartbeats 4000000 in
set_option maxRecDepth 20000 in
theorem t_Mo_active (sh : Shp) (c : Nat) (hS : S_Mo sh c) (hp : HP) (v1 : Int32) (v2 : Int32) (res : Int32) (hf : f_Mo_active c hp v1 v2 = some res) : Ex 3 q_Mo_active sh [.ref c, .int v1, .int v2] hp (some (.int res)) hp := by
  refine Ex.of [some (.ref c), some (.int v1), some (.int v2)] rfl (Nat.le_of_ble_eq_true rfl) (by decide +kernel) rfl ?_
  obtain ⟨t, hk⟩ : ∃ t, t = res := ⟨res, rfl⟩
  rw [← hk] at hf
  unfold f_Mo_active at hf
  refine Fx.run [(.iload_n 1, 1, 1, 0, .null)] 1 (by decide +kernel) ?_
  show Fx q_Mo_active 3 sh 1 [some (.ref c), some (.int v1), some (.int v2)] [.int v1] hp (some (.int res)) hp
  replace hf := bnd hf
  obtain ⟨r1, hr1, hf⟩ := hf
  refine Fx.callS (rr := (some (.int r1))) (hp1 := hp) [.int v1] [] lk_9_52 (by decide +kernel) (t_Mo_isSide sh hp v1 r1 hr1) ⟨Nat.le_of_ble_eq_true rfl, Nat.le_of_ble_eq_true rfl⟩ rfl (Nat.le_of_ble_eq_true rfl) ?_
  show Fx q_Mo_active 3 sh 4 [some (.ref c), some (.int v1), some (.int v2)] [.int r1] hp (some (.int res)) hp
  refine Fx.if_ne (5) 9 7 (by decide +kernel) (fun b2 => ?_) (fun b2 => ?_)
  · replace hf := ifn b2 hf
    refine Fx.run [(.iload_n 2, 1, 2, 0, .null), (.iconst (-1), 1, 0, 0, .int (-1))] 11 (by decide +kernel) ?_
    show Fx q_Mo_active 3 sh 11 [some (.ref c), some (.int v1), some (.int v2)] [.int (-1), .int v2] hp (some (.int res)) hp
    refine Fx.icmp_ne (14) 25 14 (by decide +kernel) (fun b3 => ?_) (fun b3 => ?_)
    · replace hf := ifn b3 hf
      replace hf := gd hf
      obtain ⟨g4, hf⟩ := hf
      refine Fx.run [(.iload_n 2, 1, 2, 0, .null), (.iconst 0, 1, 0, 0, .int 0), (.aload_n 0, 1, 0, 0, .null), (.getfield 9, 3, 9, 0, .ref 1), (.sipush 781, 3, 0, 0, .int 781), (.iload_n 1, 1, 1, 0, .null), (.iadd, 1, 0, 0, .null), (.iaload, 1, 4100, 0, .null), (.iconst 1, 1, 0, 0, .int 1), (.isub, 1, 0, 0, .null)] 39 (by decide +kernel) ?_
      show isK sh c 9 ∧ (isA sh (c + 1) 10 4100 ∧ inb (781 + v1) 4100) ∧ Fx q_Mo_active 3 sh 39 [some (.ref c), some (.int v1), some (.int v2)] [.int ((hp.1 (c + 1) (ix (781 + v1))) - 1), .int 0, .int v2] hp (some (.int res)) hp
      refine ⟨hS.1, ⟨hS.2.1, g4⟩, ?_⟩
      replace hf := bnd hf
      obtain ⟨r5, hr5, hf⟩ := hf
      refine Fx.callS (rr := (some (.int r5))) (hp1 := hp) [.int v2, .int 0, .int ((hp.1 (c + 1) (ix (781 + v1))) - 1)] [] lk_9_48 (by decide +kernel) (t_Mo_isIn sh hp v2 0 ((hp.1 (c + 1) (ix (781 + v1))) - 1) r5 hr5) ⟨Nat.le_of_ble_eq_true rfl, Nat.le_of_ble_eq_true rfl⟩ rfl (Nat.le_of_ble_eq_true rfl) ?_
      show Fx q_Mo_active 3 sh 42 [some (.ref c), some (.int v1), some (.int v2)] [.int r5] hp (some (.int res)) hp
      refine Fx.if_eq (17) 59 45 (by decide +kernel) (fun b6 => ?_) (fun b6 => ?_)
      · replace hf := ifp b6 hf
        refine Fx.run [(.iconst (-1), 1, 0, 0, .int (-1))] 60 (by decide +kernel) ?_
        show Fx q_Mo_active 3 sh 60 [some (.ref c), some (.int v1), some (.int v2)] [.int (-1)] hp (some (.int res)) hp
        obtain rfl := Option.some.inj hf
        have hk : (-1) = res := hk
        subst hk
        exact Fx.iret (by decide +kernel) rfl
      · replace hf := ifn b6 hf
        refine Fx.run [(.aload_n 0, 1, 0, 0, .null), (.getfield 9, 3, 9, 0, .ref 1), (.aload_n 0, 1, 0, 0, .null), (.iload_n 1, 1, 1, 0, .null), (.iload_n 2, 1, 2, 0, .null)] 52 (by decide +kernel) ?_
        show isK sh c 9 ∧ Fx q_Mo_active 3 sh 52 [some (.ref c), some (.int v1), some (.int v2)] [.int v2, .int v1, .ref c, .ref (c + 1)] hp (some (.int res)) hp
        refine ⟨hS.1, ?_⟩
        replace hf := bnd hf
        obtain ⟨r7, hr7, hf⟩ := hf
        refine Fx.callV (rr := (some (.int r7))) (hp1 := hp) [.int v1, .int v2] [.ref (c + 1)] lk_9_146 (by decide +kernel) (t_Mo_activeAt sh c (hS) hp v1 v2 r7 hr7) ⟨Nat.le_of_ble_eq_true rfl, Nat.le_of_ble_eq_true rfl⟩ (hS).1 (by decide) rfl (Nat.le_of_ble_eq_true rfl) ?_
        show Fx q_Mo_active 3 sh 55 [some (.ref c), some (.int v1), some (.int v2)] [.int r7, .ref (c + 1)] hp (some (.int res)) hp
        replace hf := gd hf
        obtain ⟨g8, hf⟩ := hf
        refine Fx.run [(.iaload, 1, 4100, 0, .null)] 56 (by decide +kernel) ?_
        show (isA sh (c + 1) 10 4100 ∧ inb r7 4100) ∧ Fx q_Mo_active 3 sh 56 [some (.ref c), some (.int v1), some (.int v2)] [.int (hp.1 (c + 1) (ix r7))] hp (some (.int res)) hp
        refine ⟨⟨hS.2.1, g8⟩, ?_⟩
        refine Fx.goto (4) 60 (by decide +kernel) ?_
        obtain rfl := Option.some.inj hf
        have hk : (hp.1 (c + 1) (ix r7)) = res := hk
        subst hk
        exact Fx.iret (by decide +kernel) rfl
    · replace hf := ifp b3 hf
      replace hf := gd hf
      obtain ⟨g9, hf⟩ := hf
      refine Fx.run [(.aload_n 0, 1, 0, 0, .null), (.getfield 9, 3, 9, 0, .ref 1), (.sipush 781, 3, 0, 0, .int 781), (.iload_n 1, 1, 1, 0, .null), (.iadd, 1, 0, 0, .null), (.iaload, 1, 4100, 0, .null)] 24 (by decide +kernel) ?_
      show isK sh c 9 ∧ (isA sh (c + 1) 10 4100 ∧ inb (781 + v1) 4100) ∧ Fx q_Mo_active 3 sh 24 [some (.ref c), some (.int v1), some (.int v2)] [.int (hp.1 (c + 1) (ix (781 + v1)))] hp (some (.int res)) hp
      refine ⟨hS.1, ⟨hS.2.1, g9⟩, ?_⟩
      obtain rfl := Option.some.inj hf
      have hk : (hp.1 (c + 1) (ix (781 + v1))) = res := hk
      subst hk
      exact Fx.iret (by decide +kernel) rfl
  · replace hf := ifp b2 hf
    refine Fx.run [(.iconst (-1), 1, 0, 0, .int (-1))] 8 (by decide +kernel) ?_
    show Fx q_Mo_active 3 sh 8 [some (.ref c), some (.int v1), some (.int v2)] [.int (-1)] hp (some (.int res)) hp
    obtain rfl := Option.some.inj hf
    have hk : (-1) = res := hk
    subst hk
    exact Fx.iret (by decide +kernel) rfl
set_option maxHeartbeats 4000000 in
set_option maxRecDepth 20000 in
theorem t_Mo_sharedFrom (sh : Shp) (c : Nat) (hS : S_Mo sh c) (hp : HP) (v1 : Int32) (v2 : Int32) (res : Int32) (hf : f_Mo_sharedFrom c hp v1 v2 = some res) : Ex 4 q_Mo_sharedFrom sh [.ref c, .int v1, .int v2] hp (some (.int res)) hp := by
  refine Ex.of [some (.ref c), some (.int v1), some (.int v2)] rfl (Nat.le_of_ble_eq_true rfl) (by decide +kernel) rfl ?_
  obtain ⟨t, hk⟩ : ∃ t, t = res := ⟨res, rfl⟩
  rw [← hk] at hf
  unfold f_Mo_sharedFrom at hf
  refine Fx.run [(.aload_n 0, 1, 0, 0, .null), (.iconst 0, 1, 0, 0, .int 0), (.iload_n 1, 1, 1, 0, .null)] 3 (by decide +kernel) ?_
  show Fx q_Mo_sharedFrom 4 sh 3 [some (.ref c), some (.int v1), some (.int v2)] [.int v1, .int 0, .ref c] hp (some (.int res)) hp
  replace hf := bnd hf
  obtain ⟨r1, hr1, hf⟩ := hf
  refine Fx.callV (rr := (some (.int r1))) (hp1 := hp) [.int 0, .int v1] [] lk_9_56 (by decide +kernel) (t_Mo_startOf sh c (hS) hp 0 v1 r1 hr1) ⟨Nat.le_of_ble_eq_true rfl, Nat.le_of_ble_eq_true rfl⟩ (hS).1 (by decide) rfl (Nat.le_of_ble_eq_true rfl) ?_
  show Fx q_Mo_sharedFrom 4 sh 6 [some (.ref c), some (.int v1), some (.int v2)] [.int r1] hp (some (.int res)) hp
  refine Fx.run [(.aload_n 0, 1, 0, 0, .null), (.iconst 1, 1, 0, 0, .int 1), (.iload_n 2, 1, 2, 0, .null)] 9 (by decide +kernel) ?_
  show Fx q_Mo_sharedFrom 4 sh 9 [some (.ref c), some (.int v1), some (.int v2)] [.int v2, .int 1, .ref c, .int r1] hp (some (.int res)) hp
  replace hf := bnd hf
  obtain ⟨r2, hr2, hf⟩ := hf
  refine Fx.callV (rr := (some (.int r2))) (hp1 := hp) [.int 1, .int v2] [.int r1] lk_9_56 (by decide +kernel) (t_Mo_startOf sh c (hS) hp 1 v2 r2 hr2) ⟨Nat.le_of_ble_eq_true rfl, Nat.le_of_ble_eq_true rfl⟩ (hS).1 (by decide) rfl (Nat.le_of_ble_eq_true rfl) ?_
  show Fx q_Mo_sharedFrom 4 sh 12 [some (.ref c), some (.int v1), some (.int v2)] [.int r2, .int r1] hp (some (.int res)) hp
  replace hf := bnd hf
  obtain ⟨r3, hr3, hf⟩ := hf
  refine Fx.callS (rr := (some (.int r3))) (hp1 := hp) [.int r1, .int r2] [] lk_9_133 (by decide +kernel) (t_Mo_more sh hp r1 r2 r3 hr3) ⟨Nat.le_of_ble_eq_true rfl, Nat.le_of_ble_eq_true rfl⟩ rfl (Nat.le_of_ble_eq_true rfl) ?_
  show Fx q_Mo_sharedFrom 4 sh 15 [some (.ref c), some (.int v1), some (.int v2)] [.int r3] hp (some (.int res)) hp
  obtain rfl := Option.some.inj hf
  have hk : r3 = res := hk
  subst hk
  exact Fx.iret (by decide +kernel) rfl
set_option maxHeartbeats 4000000 in
set_option maxRecDepth 20000 in
theorem t_Mo_sharedTo (sh : Shp) (c : Nat) (hS : S_Mo sh c) (hp : HP) (v1 : Int32) (v2 : Int32) (res : Int32) (hf : f_Mo_sharedTo c hp v1 v2 = some res) : Ex 4 q_Mo_sharedTo sh [.ref c, .int v1, .int v2] hp (some (.int res)) hp := by
  refine Ex.of [some (.ref c), some (.int v1), some (.int v2)] rfl (Nat.le_of_ble_eq_true rfl) (by decide +kernel) rfl ?_
  obtain ⟨t, hk⟩ : ∃ t, t = res := ⟨res, rfl⟩
  rw [← hk] at hf
  unfold f_Mo_sharedTo at hf
  refine Fx.run [(.aload_n 0, 1, 0, 0, .null), (.iconst 0, 1, 0, 0, .int 0), (.iload_n 1, 1, 1, 0, .null)] 3 (by decide +kernel) ?_
  show Fx q_Mo_sharedTo 4 sh 3 [some (.ref c), some (.int v1), some (.int v2)] [.int v1, .int 0, .ref c] hp (some (.int res)) hp
  replace hf := bnd hf
  obtain ⟨r1, hr1, hf⟩ := hf
  refine Fx.callV (rr := (some (.int r1))) (hp1 := hp) [.int 0, .int v1] [] lk_9_59 (by decide +kernel) (t_Mo_endOf sh c (hS) hp 0 v1 r1 hr1) ⟨Nat.le_of_ble_eq_true rfl, Nat.le_of_ble_eq_true rfl⟩ (hS).1 (by decide) rfl (Nat.le_of_ble_eq_true rfl) ?_
  show Fx q_Mo_sharedTo 4 sh 6 [some (.ref c), some (.int v1), some (.int v2)] [.int r1] hp (some (.int res)) hp
  refine Fx.run [(.aload_n 0, 1, 0, 0, .null), (.iconst 1, 1, 0, 0, .int 1), (.iload_n 2, 1, 2, 0, .null)] 9 (by decide +kernel) ?_
  show Fx q_Mo_sharedTo 4 sh 9 [some (.ref c), some (.int v1), some (.int v2)] [.int v2, .int 1, .ref c, .int r1] hp (some (.int res)) hp
  replace hf := bnd hf
  obtain ⟨r2, hr2, hf⟩ := hf
  refine Fx.callV (rr := (some (.int r2))) (hp1 := hp) [.int 1, .int v2] [.int r1] lk_9_59 (by decide +kernel) (t_Mo_endOf sh c (hS) hp 1 v2 r2 hr2) ⟨Nat.le_of_ble_eq_true rfl, Nat.le_of_ble_eq_true rfl⟩ (hS).1 (by decide) rfl (Nat.le_of_ble_eq_true rfl) ?_
  show Fx q_Mo_sharedTo 4 sh 12 [some (.ref c), some (.int v1), some (.int v2)] [.int r2, .int r1] hp (some (.int res)) hp
  replace hf := bnd hf
  obtain ⟨r3, hr3, hf⟩ := hf
  refine Fx.callS (rr := (some (.int r3))) (hp1 := hp) [.int r1, .int r2] [] lk_9_173 (by decide +kernel) (t_Mo_less sh hp r1 r2 r3 hr3) ⟨Nat.le_of_ble_eq_true rfl, Nat.le_of_ble_eq_true rfl⟩ rfl (Nat.le_of_ble_eq_true rfl) ?_
  show Fx q_Mo_sharedTo 4 sh 15 [some (.ref c), some (.int v1), some (.int v2)] [.int r3] hp (some (.int res)) hp
  obtain rfl := Option.some.inj hf
  have hk : r3 = res := hk
  subst hk
  exact Fx.iret (by decide +kernel) rfl
set_option maxHeartbeats 4000000 in
set_option maxRecDepth 20000 in
theorem t_Mo_sharedLong (sh : Shp) (c : Nat) (hS : S_Mo sh c) (hp : HP) (v1 : Int32) (v2 : Int32) (res : Int32) (hf : f_Mo_sharedLong c hp v1 v2 = some res) : Ex 5 q_Mo_sharedLong sh [.ref c, .int v1, .int v2] hp (some (.int res)) hp := by
  refine Ex.of [some (.ref c), some (.int v1), some (.int v2)] rfl (Nat.le_of_ble_eq_true rfl) (by decide +kernel) rfl ?_
  obtain ⟨t, hk⟩ : ∃ t, t = res := ⟨res, rfl⟩
  rw [← hk] at hf
  unfold f_Mo_sharedLong at hf
  refine Fx.run [(.aload_n 0, 1, 0, 0, .null), (.iload_n 1, 1, 1, 0, .null), (.iload_n 2, 1, 2, 0, .null)] 3 (by decide +kernel) ?_
  show Fx q_Mo_sharedLong 5 sh 3 [some (.ref c), some (.int v1), some (.int v2)] [.int v2, .int v1, .ref c] hp (some (.int res)) hp
  replace hf := bnd hf
  obtain ⟨r1, hr1, hf⟩ := hf
  refine Fx.callV (rr := (some (.int r1))) (hp1 := hp) [.int v1, .int v2] [] lk_9_167 (by decide +kernel) (t_Mo_sharedTo sh c (hS) hp v1 v2 r1 hr1) ⟨Nat.le_of_ble_eq_true rfl, Nat.le_of_ble_eq_true rfl⟩ (hS).1 (by decide) rfl (Nat.le_of_ble_eq_true rfl) ?_
  show Fx q_Mo_sharedLong 5 sh 6 [some (.ref c), some (.int v1), some (.int v2)] [.int r1] hp (some (.int res)) hp
  replace hf := bnd hf
  obtain ⟨r2, hr2, hf⟩ := hf
  refine Fx.callS (rr := (some (.int r2))) (hp1 := hp) [.int r1] [] lk_9_164 (by decide +kernel) (t_Mo_time sh hp r1 r2 hr2) ⟨Nat.le_of_ble_eq_true rfl, Nat.le_of_ble_eq_true rfl⟩ rfl (Nat.le_of_ble_eq_true rfl) ?_
  show Fx q_Mo_sharedLong 5 sh 9 [some (.ref c), some (.int v1), some (.int v2)] [.int r2] hp (some (.int res)) hp
  refine Fx.run [(.aload_n 0, 1, 0, 0, .null), (.iload_n 1, 1, 1, 0, .null), (.iload_n 2, 1, 2, 0, .null)] 12 (by decide +kernel) ?_
  show Fx q_Mo_sharedLong 5 sh 12 [some (.ref c), some (.int v1), some (.int v2)] [.int v2, .int v1, .ref c, .int r2] hp (some (.int res)) hp
  replace hf := bnd hf
  obtain ⟨r3, hr3, hf⟩ := hf
  refine Fx.callV (rr := (some (.int r3))) (hp1 := hp) [.int v1, .int v2] [.int r2] lk_9_161 (by decide +kernel) (t_Mo_sharedFrom sh c (hS) hp v1 v2 r3 hr3) ⟨Nat.le_of_ble_eq_true rfl, Nat.le_of_ble_eq_true rfl⟩ (hS).1 (by decide) rfl (Nat.le_of_ble_eq_true rfl) ?_
  show Fx q_Mo_sharedLong 5 sh 15 [some (.ref c), some (.int v1), some (.int v2)] [.int r3, .int r2] hp (some (.int res)) hp
  replace hf := bnd hf
  obtain ⟨r4, hr4, hf⟩ := hf
  refine Fx.callS (rr := (some (.int r4))) (hp1 := hp) [.int r3] [.int r2] lk_9_164 (by decide +kernel) (t_Mo_time sh hp r3 r4 hr4) ⟨Nat.le_of_ble_eq_true rfl, Nat.le_of_ble_eq_true rfl⟩ rfl (Nat.le_of_ble_eq_true rfl) ?_
  show Fx q_Mo_sharedLong 5 sh 18 [some (.ref c), some (.int v1), some (.int v2)] [.int r4, .int r2] hp (some (.int res)) hp
  refine Fx.run [(.isub, 1, 0, 0, .null)] 19 (by decide +kernel) ?_
  show Fx q_Mo_sharedLong 5 sh 19 [some (.ref c), some (.int v1), some (.int v2)] [.int (r2 - r4)] hp (some (.int res)) hp
  obtain rfl := Option.some.inj hf
  have hk : (r2 - r4) = res := hk
  subst hk
  exact Fx.iret (by decide +kernel) rfl
set_option maxHeartbeats 4000000 in
set_option maxRecDepth 20000 in
theorem t_Mo_pair (sh : Shp) (c : Nat) (hS : S_Mo sh c) (hp : HP) (v1 : Int32) (v2 : Int32) (res : Int32) (hf : f_Mo_pair c hp v1 v2 = some res) : Ex 6 q_Mo_pair sh [.ref c, .int v1, .int v2] hp (some (.int res)) hp := by
  refine Ex.of [some (.ref c), some (.int v1), some (.int v2), none, none] rfl (Nat.le_of_ble_eq_true rfl) (by decide +kernel) rfl ?_
  obtain ⟨t, hk⟩ : ∃ t, t = res := ⟨res, rfl⟩
  rw [← hk] at hf
  unfold f_Mo_pair at hf
  refine Fx.run [(.iload_n 1, 1, 1, 0, .null), (.iconst (-1), 1, 0, 0, .int (-1))] 2 (by decide +kernel) ?_
  show Fx q_Mo_pair 6 sh 2 [some (.ref c), some (.int v1), some (.int v2), none, none] [.int (-1), .int v1] hp (some (.int res)) hp
  refine Fx.icmp_ne (12) 14 5 (by decide +kernel) (fun b1 => ?_) (fun b1 => ?_)
  · replace hf := ifn b1 hf
    refine Fx.run [(.iload_n 1, 1, 1, 0, .null), (.iconst 0, 1, 0, 0, .int 0), (.aload_n 0, 1, 0, 0, .null), (.getfield 9, 3, 9, 0, .ref 1), (.sipush 863, 3, 0, 0, .int 863), (.iaload, 1, 4100, 0, .null), (.iconst 1, 1, 0, 0, .int 1), (.isub, 1, 0, 0, .null)] 26 (by decide +kernel) ?_
    show isK sh c 9 ∧ (isA sh (c + 1) 10 4100 ∧ inb 863 4100) ∧ Fx q_Mo_pair 6 sh 26 [some (.ref c), some (.int v1), some (.int v2), none, none] [.int ((hp.1 (c + 1) (ix 863)) - 1), .int 0, .int v1] hp (some (.int res)) hp
    refine ⟨hS.1, ⟨hS.2.1, (by decide)⟩, ?_⟩
    replace hf := bnd hf
    obtain ⟨r2, hr2, hf⟩ := hf
    refine Fx.callS (rr := (some (.int r2))) (hp1 := hp) [.int v1, .int 0, .int ((hp.1 (c + 1) (ix 863)) - 1)] [] lk_9_48 (by decide +kernel) (t_Mo_isIn sh hp v1 0 ((hp.1 (c + 1) (ix 863)) - 1) r2 hr2) ⟨Nat.le_of_ble_eq_true rfl, Nat.le_of_ble_eq_true rfl⟩ rfl (Nat.le_of_ble_eq_true rfl) ?_
    show Fx q_Mo_pair 6 sh 29 [some (.ref c), some (.int v1), some (.int v2), none, none] [.int r2] hp (some (.int res)) hp
    refine Fx.if_ne (6) 35 32 (by decide +kernel) (fun b3 => ?_) (fun b3 => ?_)
    · replace hf := ifn b3 hf
      replace hf := gd hf
      obtain ⟨g4, hf⟩ := hf
      replace hf := gd hf
      obtain ⟨g5, hf⟩ := hf
      refine Fx.run [(.aload_n 0, 1, 0, 0, .null), (.getfield 9, 3, 9, 0, .ref 1), (.sipush 864, 3, 0, 0, .int 864), (.iconst 2, 1, 0, 0, .int 2), (.iload_n 1, 1, 1, 0, .null), (.imul, 1, 0, 0, .null), (.iadd, 1, 0, 0, .null), (.iaload, 1, 4100, 0, .null), (.istore_n 3, 1, 3, 0, .null), (.aload_n 0, 1, 0, 0, .null), (.getfield 9, 3, 9, 0, .ref 1), (.sipush 864, 3, 0, 0, .int 864), (.iconst 2, 1, 0, 0, .int 2), (.iload_n 1, 1, 1, 0, .null), (.imul, 1, 0, 0, .null), (.iadd, 1, 0, 0, .null), (.iconst 1, 1, 0, 0, .int 1), (.iadd, 1, 0, 0, .null), (.iaload, 1, 4100, 0, .null), (.istore 4, 2, 4, 0, .null), (.iload_n 2, 1, 2, 0, .null)] 65 (by decide +kernel) ?_
      show isK sh c 9 ∧ (isA sh (c + 1) 10 4100 ∧ inb (864 + (2 * v1)) 4100) ∧ isK sh c 9 ∧ (isA sh (c + 1) 10 4100 ∧ inb ((864 + (2 * v1)) + 1) 4100) ∧ Fx q_Mo_pair 6 sh 65 [some (.ref c), some (.int v1), some (.int v2), some (.int (hp.1 (c + 1) (ix (864 + (2 * v1))))), some (.int (hp.1 (c + 1) (ix ((864 + (2 * v1)) + 1))))] [.int v2] hp (some (.int res)) hp
      refine ⟨hS.1, ⟨hS.2.1, g4⟩, hS.1, ⟨hS.2.1, g5⟩, ?_⟩
      by_cases b12 : v2 = 0
      · replace hf := ifp b12 hf
        refine Fx.swX 0 104 b12 (by decide +kernel) ?_
        refine Fx.run [(.iload_n 3, 1, 3, 0, .null)] 105 (by decide +kernel) ?_
        show Fx q_Mo_pair 6 sh 105 [some (.ref c), some (.int v1), some (.int v2), some (.int (hp.1 (c + 1) (ix (864 + (2 * v1))))), some (.int (hp.1 (c + 1) (ix ((864 + (2 * v1)) + 1))))] [.int (hp.1 (c + 1) (ix (864 + (2 * v1))))] hp (some (.int res)) hp
        obtain rfl := Option.some.inj hf
        have hk : (hp.1 (c + 1) (ix (864 + (2 * v1)))) = res := hk
        subst hk
        exact Fx.iret (by decide +kernel) rfl
      replace hf := ifn b12 hf
      by_cases b13 : v2 = 1
      · replace hf := ifp b13 hf
        refine Fx.swX 1 106 b13 (by decide +kernel) ?_
        refine Fx.run [(.iload 4, 2, 4, 0, .null)] 108 (by decide +kernel) ?_
        show Fx q_Mo_pair 6 sh 108 [some (.ref c), some (.int v1), some (.int v2), some (.int (hp.1 (c + 1) (ix (864 + (2 * v1))))), some (.int (hp.1 (c + 1) (ix ((864 + (2 * v1)) + 1))))] [.int (hp.1 (c + 1) (ix ((864 + (2 * v1)) + 1)))] hp (some (.int res)) hp
        obtain rfl := Option.some.inj hf
        have hk : (hp.1 (c + 1) (ix ((864 + (2 * v1)) + 1))) = res := hk
        subst hk
        exact Fx.iret (by decide +kernel) rfl
      replace hf := ifn b13 hf
      by_cases b14 : v2 = 2
      · replace hf := ifp b14 hf
        refine Fx.swX 2 109 b14 (by decide +kernel) ?_
        refine Fx.run [(.aload_n 0, 1, 0, 0, .null), (.iconst 0, 1, 0, 0, .int 0), (.iload_n 3, 1, 3, 0, .null), (.iconst 1, 1, 0, 0, .int 1), (.iload 4, 2, 4, 0, .null)] 115 (by decide +kernel) ?_
        show Fx q_Mo_pair 6 sh 115 [some (.ref c), some (.int v1), some (.int v2), some (.int (hp.1 (c + 1) (ix (864 + (2 * v1))))), some (.int (hp.1 (c + 1) (ix ((864 + (2 * v1)) + 1))))] [.int (hp.1 (c + 1) (ix ((864 + (2 * v1)) + 1))), .int 1, .int (hp.1 (c + 1) (ix (864 + (2 * v1)))), .int 0, .ref c] hp (some (.int res)) hp
        replace hf := bnd hf
        obtain ⟨r6, hr6, hf⟩ := hf
        refine Fx.callV (rr := (some (.int r6))) (hp1 := hp) [.int 0, .int (hp.1 (c + 1) (ix (864 + (2 * v1)))), .int 1, .int (hp.1 (c + 1) (ix ((864 + (2 * v1)) + 1)))] [] lk_9_66 (by decide +kernel) (t_Mo_kindBetween sh c (hS) hp 0 (hp.1 (c + 1) (ix (864 + (2 * v1)))) 1 (hp.1 (c + 1) (ix ((864 + (2 * v1)) + 1))) r6 hr6) ⟨Nat.le_of_ble_eq_true rfl, Nat.le_of_ble_eq_true rfl⟩ (hS).1 (by decide) rfl (Nat.le_of_ble_eq_true rfl) ?_
        show Fx q_Mo_pair 6 sh 118 [some (.ref c), some (.int v1), some (.int v2), some (.int (hp.1 (c + 1) (ix (864 + (2 * v1))))), some (.int (hp.1 (c + 1) (ix ((864 + (2 * v1)) + 1))))] [.int r6] hp (some (.int res)) hp
        obtain rfl := Option.some.inj hf
        have hk : r6 = res := hk
        subst hk
        exact Fx.iret (by decide +kernel) rfl
      replace hf := ifn b14 hf
      by_cases b15 : v2 = 3
      · replace hf := ifp b15 hf
        refine Fx.swX 3 119 b15 (by decide +kernel) ?_
        refine Fx.run [(.aload_n 0, 1, 0, 0, .null), (.iload_n 3, 1, 3, 0, .null), (.iload 4, 2, 4, 0, .null)] 123 (by decide +kernel) ?_
        show Fx q_Mo_pair 6 sh 123 [some (.ref c), some (.int v1), some (.int v2), some (.int (hp.1 (c + 1) (ix (864 + (2 * v1))))), some (.int (hp.1 (c + 1) (ix ((864 + (2 * v1)) + 1))))] [.int (hp.1 (c + 1) (ix ((864 + (2 * v1)) + 1))), .int (hp.1 (c + 1) (ix (864 + (2 * v1)))), .ref c] hp (some (.int res)) hp
        replace hf := bnd hf
        obtain ⟨r7, hr7, hf⟩ := hf
        refine Fx.callV (rr := (some (.int r7))) (hp1 := hp) [.int (hp.1 (c + 1) (ix (864 + (2 * v1)))), .int (hp.1 (c + 1) (ix ((864 + (2 * v1)) + 1)))] [] lk_9_161 (by decide +kernel) (t_Mo_sharedFrom sh c (hS) hp (hp.1 (c + 1) (ix (864 + (2 * v1)))) (hp.1 (c + 1) (ix ((864 + (2 * v1)) + 1))) r7 hr7) ⟨Nat.le_of_ble_eq_true rfl, Nat.le_of_ble_eq_true rfl⟩ (hS).1 (by decide) rfl (Nat.le_of_ble_eq_true rfl) ?_
        show Fx q_Mo_pair 6 sh 126 [some (.ref c), some (.int v1), some (.int v2), some (.int (hp.1 (c + 1) (ix (864 + (2 * v1))))), some (.int (hp.1 (c + 1) (ix ((864 + (2 * v1)) + 1))))] [.int r7] hp (some (.int res)) hp
        replace hf := bnd hf
        obtain ⟨r8, hr8, hf⟩ := hf
        refine Fx.callS (rr := (some (.int r8))) (hp1 := hp) [.int r7] [] lk_9_164 (by decide +kernel) (t_Mo_time sh hp r7 r8 hr8) ⟨Nat.le_of_ble_eq_true rfl, Nat.le_of_ble_eq_true rfl⟩ rfl (Nat.le_of_ble_eq_true rfl) ?_
        show Fx q_Mo_pair 6 sh 129 [some (.ref c), some (.int v1), some (.int v2), some (.int (hp.1 (c + 1) (ix (864 + (2 * v1))))), some (.int (hp.1 (c + 1) (ix ((864 + (2 * v1)) + 1))))] [.int r8] hp (some (.int res)) hp
        obtain rfl := Option.some.inj hf
        have hk : r8 = res := hk
        subst hk
        exact Fx.iret (by decide +kernel) rfl
      replace hf := ifn b15 hf
      by_cases b16 : v2 = 4
      · replace hf := ifp b16 hf
        refine Fx.swX 4 130 b16 (by decide +kernel) ?_
        refine Fx.run [(.aload_n 0, 1, 0, 0, .null), (.iload_n 3, 1, 3, 0, .null), (.iload 4, 2, 4, 0, .null)] 134 (by decide +kernel) ?_
        show Fx q_Mo_pair 6 sh 134 [some (.ref c), some (.int v1), some (.int v2), some (.int (hp.1 (c + 1) (ix (864 + (2 * v1))))), some (.int (hp.1 (c + 1) (ix ((864 + (2 * v1)) + 1))))] [.int (hp.1 (c + 1) (ix ((864 + (2 * v1)) + 1))), .int (hp.1 (c + 1) (ix (864 + (2 * v1)))), .ref c] hp (some (.int res)) hp
        replace hf := bnd hf
        obtain ⟨r9, hr9, hf⟩ := hf
        refine Fx.callV (rr := (some (.int r9))) (hp1 := hp) [.int (hp.1 (c + 1) (ix (864 + (2 * v1)))), .int (hp.1 (c + 1) (ix ((864 + (2 * v1)) + 1)))] [] lk_9_167 (by decide +kernel) (t_Mo_sharedTo sh c (hS) hp (hp.1 (c + 1) (ix (864 + (2 * v1)))) (hp.1 (c + 1) (ix ((864 + (2 * v1)) + 1))) r9 hr9) ⟨Nat.le_of_ble_eq_true rfl, Nat.le_of_ble_eq_true rfl⟩ (hS).1 (by decide) rfl (Nat.le_of_ble_eq_true rfl) ?_
        show Fx q_Mo_pair 6 sh 137 [some (.ref c), some (.int v1), some (.int v2), some (.int (hp.1 (c + 1) (ix (864 + (2 * v1))))), some (.int (hp.1 (c + 1) (ix ((864 + (2 * v1)) + 1))))] [.int r9] hp (some (.int res)) hp
        replace hf := bnd hf
        obtain ⟨r10, hr10, hf⟩ := hf
        refine Fx.callS (rr := (some (.int r10))) (hp1 := hp) [.int r9] [] lk_9_164 (by decide +kernel) (t_Mo_time sh hp r9 r10 hr10) ⟨Nat.le_of_ble_eq_true rfl, Nat.le_of_ble_eq_true rfl⟩ rfl (Nat.le_of_ble_eq_true rfl) ?_
        show Fx q_Mo_pair 6 sh 140 [some (.ref c), some (.int v1), some (.int v2), some (.int (hp.1 (c + 1) (ix (864 + (2 * v1))))), some (.int (hp.1 (c + 1) (ix ((864 + (2 * v1)) + 1))))] [.int r10] hp (some (.int res)) hp
        obtain rfl := Option.some.inj hf
        have hk : r10 = res := hk
        subst hk
        exact Fx.iret (by decide +kernel) rfl
      replace hf := ifn b16 hf
      by_cases b17 : v2 = 5
      · replace hf := ifp b17 hf
        refine Fx.swX 5 141 b17 (by decide +kernel) ?_
        refine Fx.run [(.aload_n 0, 1, 0, 0, .null), (.iload_n 3, 1, 3, 0, .null), (.iload 4, 2, 4, 0, .null)] 145 (by decide +kernel) ?_
        show Fx q_Mo_pair 6 sh 145 [some (.ref c), some (.int v1), some (.int v2), some (.int (hp.1 (c + 1) (ix (864 + (2 * v1))))), some (.int (hp.1 (c + 1) (ix ((864 + (2 * v1)) + 1))))] [.int (hp.1 (c + 1) (ix ((864 + (2 * v1)) + 1))), .int (hp.1 (c + 1) (ix (864 + (2 * v1)))), .ref c] hp (some (.int res)) hp
        replace hf := bnd hf
        obtain ⟨r11, hr11, hf⟩ := hf
        refine Fx.callV (rr := (some (.int r11))) (hp1 := hp) [.int (hp.1 (c + 1) (ix (864 + (2 * v1)))), .int (hp.1 (c + 1) (ix ((864 + (2 * v1)) + 1)))] [] lk_9_170 (by decide +kernel) (t_Mo_sharedLong sh c (hS) hp (hp.1 (c + 1) (ix (864 + (2 * v1)))) (hp.1 (c + 1) (ix ((864 + (2 * v1)) + 1))) r11 hr11) ⟨Nat.le_of_ble_eq_true rfl, Nat.le_of_ble_eq_true rfl⟩ (hS).1 (by decide) rfl (Nat.le_of_ble_eq_true rfl) ?_
        show Fx q_Mo_pair 6 sh 148 [some (.ref c), some (.int v1), some (.int v2), some (.int (hp.1 (c + 1) (ix (864 + (2 * v1))))), some (.int (hp.1 (c + 1) (ix ((864 + (2 * v1)) + 1))))] [.int r11] hp (some (.int res)) hp
        obtain rfl := Option.some.inj hf
        have hk : r11 = res := hk
        subst hk
        exact Fx.iret (by decide +kernel) rfl
      replace hf := ifn b17 hf
      refine Fx.swD [0, 1, 2, 3, 4, 5] 149 (by decide +kernel) (List.forall_mem_cons.mpr ⟨b12, (List.forall_mem_cons.mpr ⟨b13, (List.forall_mem_cons.mpr ⟨b14, (List.forall_mem_cons.mpr ⟨b15, (List.forall_mem_cons.mpr ⟨b16, (List.forall_mem_cons.mpr ⟨b17, (fun _ h => absurd h List.not_mem_nil)⟩)⟩)⟩)⟩)⟩)⟩) ?_
      refine Fx.run [(.ldc 79, 2, 0, 0, .int (-10000000))] 151 (by decide +kernel) ?_
      show Fx q_Mo_pair 6 sh 151 [some (.ref c), some (.int v1), some (.int v2), some (.int (hp.1 (c + 1) (ix (864 + (2 * v1))))), some (.int (hp.1 (c + 1) (ix ((864 + (2 * v1)) + 1))))] [.int (-10000000)] hp (some (.int res)) hp
      obtain rfl := Option.some.inj hf
      have hk : (-10000000) = res := hk
      subst hk
      exact Fx.iret (by decide +kernel) rfl
    · replace hf := ifp b3 hf
      refine Fx.run [(.ldc 79, 2, 0, 0, .int (-10000000))] 34 (by decide +kernel) ?_
      show Fx q_Mo_pair 6 sh 34 [some (.ref c), some (.int v1), some (.int v2), none, none] [.int (-10000000)] hp (some (.int res)) hp
      obtain rfl := Option.some.inj hf
      have hk : (-10000000) = res := hk
      subst hk
      exact Fx.iret (by decide +kernel) rfl
  · replace hf := ifp b1 hf
    refine Fx.run [(.aload_n 0, 1, 0, 0, .null), (.getfield 9, 3, 9, 0, .ref 1), (.sipush 863, 3, 0, 0, .int 863), (.iaload, 1, 4100, 0, .null)] 13 (by decide +kernel) ?_
    show isK sh c 9 ∧ (isA sh (c + 1) 10 4100 ∧ inb 863 4100) ∧ Fx q_Mo_pair 6 sh 13 [some (.ref c), some (.int v1), some (.int v2), none, none] [.int (hp.1 (c + 1) (ix 863))] hp (some (.int res)) hp
    refine ⟨hS.1, ⟨hS.2.1, (by decide)⟩, ?_⟩
    obtain rfl := Option.some.inj hf
    have hk : (hp.1 (c + 1) (ix 863)) = res := hk
    subst hk
    exact Fx.iret (by decide +kernel) rfl
set_option maxHeartbeats 4000000 in
set_option maxRecDepth 20000 in
theorem t_Mo_swept (sh : Shp) (c : Nat) (hS : S_Mo sh c) (hp : HP) (v1 : Int32) (res : Int32) (hf : f_Mo_swept c hp v1 = some res) : Ex 4 q_Mo_swept sh [.ref c, .int v1] hp (some (.int res)) hp := by
  refine Ex.of [some (.ref c), some (.int v1)] rfl (Nat.le_of_ble_eq_true rfl) (by decide +kernel) rfl ?_
  obtain ⟨t, hk⟩ : ∃ t, t = res := ⟨res, rfl⟩
  rw [← hk] at hf
  unfold f_Mo_swept at hf
  refine Fx.run [(.iload_n 1, 1, 1, 0, .null)] 1 (by decide +kernel) ?_
  show Fx q_Mo_swept 4 sh 1 [some (.ref c), some (.int v1)] [.int v1] hp (some (.int res)) hp
  by_cases b4 : v1 = 0
  · replace hf := ifp b4 hf
    refine Fx.swX 0 48 b4 (by decide +kernel) ?_
    refine Fx.run [(.aload_n 0, 1, 0, 0, .null), (.getfield 9, 3, 9, 0, .ref 1), (.sipush 615, 3, 0, 0, .int 615), (.iaload, 1, 4100, 0, .null)] 56 (by decide +kernel) ?_
    show isK sh c 9 ∧ (isA sh (c + 1) 10 4100 ∧ inb 615 4100) ∧ Fx q_Mo_swept 4 sh 56 [some (.ref c), some (.int v1)] [.int (hp.1 (c + 1) (ix 615))] hp (some (.int res)) hp
    refine ⟨hS.1, ⟨hS.2.1, (by decide)⟩, ?_⟩
    obtain rfl := Option.some.inj hf
    have hk : (hp.1 (c + 1) (ix 615)) = res := hk
    subst hk
    exact Fx.iret (by decide +kernel) rfl
  replace hf := ifn b4 hf
  by_cases b5 : v1 = 1
  · replace hf := ifp b5 hf
    refine Fx.swX 1 57 b5 (by decide +kernel) ?_
    refine Fx.run [(.aload_n 0, 1, 0, 0, .null), (.getfield 9, 3, 9, 0, .ref 1), (.sipush 616, 3, 0, 0, .int 616), (.iaload, 1, 4100, 0, .null), (.aload_n 0, 1, 0, 0, .null), (.getfield 9, 3, 9, 0, .ref 1), (.sipush 615, 3, 0, 0, .int 615), (.iaload, 1, 4100, 0, .null), (.isub, 1, 0, 0, .null)] 74 (by decide +kernel) ?_
    show isK sh c 9 ∧ (isA sh (c + 1) 10 4100 ∧ inb 616 4100) ∧ isK sh c 9 ∧ (isA sh (c + 1) 10 4100 ∧ inb 615 4100) ∧ Fx q_Mo_swept 4 sh 74 [some (.ref c), some (.int v1)] [.int ((hp.1 (c + 1) (ix 616)) - (hp.1 (c + 1) (ix 615)))] hp (some (.int res)) hp
    refine ⟨hS.1, ⟨hS.2.1, (by decide)⟩, hS.1, ⟨hS.2.1, (by decide)⟩, ?_⟩
    obtain rfl := Option.some.inj hf
    have hk : ((hp.1 (c + 1) (ix 616)) - (hp.1 (c + 1) (ix 615))) = res := hk
    subst hk
    exact Fx.iret (by decide +kernel) rfl
  replace hf := ifn b5 hf
  by_cases b6 : v1 = 2
  · replace hf := ifp b6 hf
    refine Fx.swX 2 75 b6 (by decide +kernel) ?_
    refine Fx.run [(.aload_n 0, 1, 0, 0, .null)] 76 (by decide +kernel) ?_
    show Fx q_Mo_swept 4 sh 76 [some (.ref c), some (.int v1)] [.ref c] hp (some (.int res)) hp
    replace hf := bnd hf
    obtain ⟨r1, hr1, hf⟩ := hf
    refine Fx.callV (rr := (some (.int r1))) (hp1 := hp) [] [] lk_9_130 (by decide +kernel) (t_Mo_heads sh c (hS) hp r1 hr1) ⟨Nat.le_of_ble_eq_true rfl, Nat.le_of_ble_eq_true rfl⟩ (hS).1 (by decide) rfl (Nat.le_of_ble_eq_true rfl) ?_
    show Fx q_Mo_swept 4 sh 79 [some (.ref c), some (.int v1)] [.int r1] hp (some (.int res)) hp
    obtain rfl := Option.some.inj hf
    have hk : r1 = res := hk
    subst hk
    exact Fx.iret (by decide +kernel) rfl
  replace hf := ifn b6 hf
  by_cases b7 : v1 = 3
  · replace hf := ifp b7 hf
    refine Fx.swX 3 80 b7 (by decide +kernel) ?_
    refine Fx.run [(.aload_n 0, 1, 0, 0, .null)] 81 (by decide +kernel) ?_
    show Fx q_Mo_swept 4 sh 81 [some (.ref c), some (.int v1)] [.ref c] hp (some (.int res)) hp
    replace hf := bnd hf
    obtain ⟨r2, hr2, hf⟩ := hf
    refine Fx.callV (rr := (some (.int r2))) (hp1 := hp) [] [] lk_9_127 (by decide +kernel) (t_Mo_actives sh c (hS) hp r2 hr2) ⟨Nat.le_of_ble_eq_true rfl, Nat.le_of_ble_eq_true rfl⟩ (hS).1 (by decide) rfl (Nat.le_of_ble_eq_true rfl) ?_
    show Fx q_Mo_swept 4 sh 84 [some (.ref c), some (.int v1)] [.int r2] hp (some (.int res)) hp
    refine Fx.run [(.aload_n 0, 1, 0, 0, .null)] 85 (by decide +kernel) ?_
    show Fx q_Mo_swept 4 sh 85 [some (.ref c), some (.int v1)] [.ref c, .int r2] hp (some (.int res)) hp
    replace hf := bnd hf
    obtain ⟨r3, hr3, hf⟩ := hf
    refine Fx.callV (rr := (some (.int r3))) (hp1 := hp) [] [.int r2] lk_9_130 (by decide +kernel) (t_Mo_heads sh c (hS) hp r3 hr3) ⟨Nat.le_of_ble_eq_true rfl, Nat.le_of_ble_eq_true rfl⟩ (hS).1 (by decide) rfl (Nat.le_of_ble_eq_true rfl) ?_
    show Fx q_Mo_swept 4 sh 88 [some (.ref c), some (.int v1)] [.int r3, .int r2] hp (some (.int res)) hp
    refine Fx.run [(.iadd, 1, 0, 0, .null)] 89 (by decide +kernel) ?_
    show Fx q_Mo_swept 4 sh 89 [some (.ref c), some (.int v1)] [.int (r2 + r3)] hp (some (.int res)) hp
    obtain rfl := Option.some.inj hf
    have hk : (r2 + r3) = res := hk
    subst hk
    exact Fx.iret (by decide +kernel) rfl
  replace hf := ifn b7 hf
  by_cases b8 : v1 = 4
  · replace hf := ifp b8 hf
    refine Fx.swX 4 90 b8 (by decide +kernel) ?_
    refine Fx.run [(.aload_n 0, 1, 0, 0, .null), (.getfield 9, 3, 9, 0, .ref 1), (.sipush 617, 3, 0, 0, .int 617), (.iaload, 1, 4100, 0, .null)] 98 (by decide +kernel) ?_
    show isK sh c 9 ∧ (isA sh (c + 1) 10 4100 ∧ inb 617 4100) ∧ Fx q_Mo_swept 4 sh 98 [some (.ref c), some (.int v1)] [.int (hp.1 (c + 1) (ix 617))] hp (some (.int res)) hp
    refine ⟨hS.1, ⟨hS.2.1, (by decide)⟩, ?_⟩
    obtain rfl := Option.some.inj hf
    have hk : (hp.1 (c + 1) (ix 617)) = res := hk
    subst hk
    exact Fx.iret (by decide +kernel) rfl
  replace hf := ifn b8 hf
  by_cases b9 : v1 = 5
  · replace hf := ifp b9 hf
    refine Fx.swX 5 99 b9 (by decide +kernel) ?_
    refine Fx.run [(.aload_n 0, 1, 0, 0, .null), (.getfield 9, 3, 9, 0, .ref 1), (.sipush 618, 3, 0, 0, .int 618), (.iaload, 1, 4100, 0, .null)] 107 (by decide +kernel) ?_
    show isK sh c 9 ∧ (isA sh (c + 1) 10 4100 ∧ inb 618 4100) ∧ Fx q_Mo_swept 4 sh 107 [some (.ref c), some (.int v1)] [.int (hp.1 (c + 1) (ix 618))] hp (some (.int res)) hp
    refine ⟨hS.1, ⟨hS.2.1, (by decide)⟩, ?_⟩
    obtain rfl := Option.some.inj hf
    have hk : (hp.1 (c + 1) (ix 618)) = res := hk
    subst hk
    exact Fx.iret (by decide +kernel) rfl
  replace hf := ifn b9 hf
  by_cases b10 : v1 = 6
  · replace hf := ifp b10 hf
    refine Fx.swX 6 108 b10 (by decide +kernel) ?_
    refine Fx.run [(.aload_n 0, 1, 0, 0, .null), (.getfield 9, 3, 9, 0, .ref 1), (.sipush 619, 3, 0, 0, .int 619), (.iaload, 1, 4100, 0, .null)] 116 (by decide +kernel) ?_
    show isK sh c 9 ∧ (isA sh (c + 1) 10 4100 ∧ inb 619 4100) ∧ Fx q_Mo_swept 4 sh 116 [some (.ref c), some (.int v1)] [.int (hp.1 (c + 1) (ix 619))] hp (some (.int res)) hp
    refine ⟨hS.1, ⟨hS.2.1, (by decide)⟩, ?_⟩
    obtain rfl := Option.some.inj hf
    have hk : (hp.1 (c + 1) (ix 619)) = res := hk
    subst hk
    exact Fx.iret (by decide +kernel) rfl
  replace hf := ifn b10 hf
  by_cases b11 : v1 = 7
  · replace hf := ifp b11 hf
    refine Fx.swX 7 117 b11 (by decide +kernel) ?_
    refine Fx.run [(.aload_n 0, 1, 0, 0, .null), (.getfield 9, 3, 9, 0, .ref 1), (.sipush 620, 3, 0, 0, .int 620), (.iaload, 1, 4100, 0, .null)] 125 (by decide +kernel) ?_
    show isK sh c 9 ∧ (isA sh (c + 1) 10 4100 ∧ inb 620 4100) ∧ Fx q_Mo_swept 4 sh 125 [some (.ref c), some (.int v1)] [.int (hp.1 (c + 1) (ix 620))] hp (some (.int res)) hp
    refine ⟨hS.1, ⟨hS.2.1, (by decide)⟩, ?_⟩
    obtain rfl := Option.some.inj hf
    have hk : (hp.1 (c + 1) (ix 620)) = res := hk
    subst hk
    exact Fx.iret (by decide +kernel) rfl
  replace hf := ifn b11 hf
  refine Fx.swD [0, 1, 2, 3, 4, 5, 6, 7] 126 (by decide +kernel) (List.forall_mem_cons.mpr ⟨b4, (List.forall_mem_cons.mpr ⟨b5, (List.forall_mem_cons.mpr ⟨b6, (List.forall_mem_cons.mpr ⟨b7, (List.forall_mem_cons.mpr ⟨b8, (List.forall_mem_cons.mpr ⟨b9, (List.forall_mem_cons.mpr ⟨b10, (List.forall_mem_cons.mpr ⟨b11, (fun _ h => absurd h List.not_mem_nil)⟩)⟩)⟩)⟩)⟩)⟩)⟩)⟩) ?_
  refine Fx.run [(.ldc 79, 2, 0, 0, .int (-10000000))] 128 (by decide +kernel) ?_
  show Fx q_Mo_swept 4 sh 128 [some (.ref c), some (.int v1)] [.int (-10000000)] hp (some (.int res)) hp
  obtain rfl := Option.some.inj hf
  have hk : (-10000000) = res := hk
  subst hk
  exact Fx.iret (by decide +kernel) rfl
abbrev P_Mo_kinds_16 (sh : Shp) (c : Nat) (hp : HP) (v1 : Int32) (res : Int32) : (Int32 × Int32) → Prop := fun s => Fx q_Mo_kinds 5 sh 16 [some (.ref c), some (.int v1), some (.int s.1), some (.int s.2), none] [] hp (some (.int res)) hp
abbrev P_Mo_kinds_29 (sh : Shp) (c : Nat) (hp : HP) (v1 : Int32) (v3 : Int32) (res : Int32) : (Int32 × Int32) → Prop := fun s => Fx q_Mo_kinds 5 sh 29 [some (.ref c), some (.int v1), some (.int s.1), some (.int v3), some (.int s.2)] [] hp (some (.int res)) hp
set_option maxHeartbeats 4000000 in
set_option maxRecDepth 20000 in
theorem t_Mo_kinds_l29 (sh : Shp) (c : Nat) (hS : S_Mo sh c) (hp : HP) (v1 : Int32) (v3 : Int32) (res : Int32) : ∀ (s : (Int32 × Int32)) (t : ((Int32 × Int32) ⊕ Int32)), f_Mo_kinds_l29 c hp v1 v3 s = some t → (Kel (P_Mo_kinds_16 sh c hp v1 res) (fun v => v = res)) t → P_Mo_kinds_29 sh c hp v1 v3 res s := by
  refine loop_ind (P_Mo_kinds_29 sh c hp v1 v3 res) (Kel (P_Mo_kinds_16 sh c hp v1 res) (fun v => v = res)) ?_
  intro s t hf hk
  obtain ⟨v2, v4⟩ := s
  replace hf : f_Mo_kinds_b29 c hp v1 v3 v2 v4 = some t := hf
  show Fx q_Mo_kinds 5 sh 29 [some (.ref c), some (.int v1), some (.int v2), some (.int v3), some (.int v4)] [] hp (some (.int res)) hp
  unfold f_Mo_kinds_b29 at hf
  refine Fx.run [(.iload 4, 2, 4, 0, .null), (.aload_n 0, 1, 0, 0, .null), (.getfield 9, 3, 9, 0, .ref 1), (.iconst 3, 1, 0, 0, .int 3), (.iaload, 1, 4100, 0, .null)] 37 (by decide +kernel) ?_
  show isK sh c 9 ∧ (isA sh (c + 1) 10 4100 ∧ inb 3 4100) ∧ Fx q_Mo_kinds 5 sh 37 [some (.ref c), some (.int v1), some (.int v2), some (.int v3), some (.int v4)] [.int (hp.1 (c + 1) (ix 3)), .int v4] hp (some (.int res)) hp
  refine ⟨hS.1, ⟨hS.2.1, (by decide)⟩, ?_⟩
  refine Fx.icmp_ge (40) 77 40 (by decide +kernel) (fun b4 => ?_) (fun b4 => ?_)
  · replace hf := ifp b4 hf
    replace hf := mpd hf
    obtain ⟨t, hf, rfl⟩ := hf
    refine Fx.run [(.iinc 3 1, 3, 3, 0, .int 1)] 80 (by decide +kernel) ?_
    show Fx q_Mo_kinds 5 sh 80 [some (.ref c), some (.int v1), some (.int v2), some (.int (v3 + 1)), some (.int v4)] [] hp (some (.int res)) hp
    refine Fx.goto (-64) 16 (by decide +kernel) ?_
    obtain rfl := Option.some.inj hf
    have hk : Fx q_Mo_kinds 5 sh 16 [some (.ref c), some (.int v1), some (.int v2), some (.int (v3 + 1)), none] [] hp (some (.int res)) hp := hk
    exact Fx.le hk (And.intro rfl (And.intro rfl (And.intro rfl (And.intro rfl trivial))))
  · replace hf := ifn b4 hf
    refine Fx.run [(.iload_n 2, 1, 2, 0, .null), (.aload_n 0, 1, 0, 0, .null), (.iload_n 3, 1, 3, 0, .null), (.iload 4, 2, 4, 0, .null)] 45 (by decide +kernel) ?_
    show Fx q_Mo_kinds 5 sh 45 [some (.ref c), some (.int v1), some (.int v2), some (.int v3), some (.int v4)] [.int v4, .int v3, .ref c, .int v2] hp (some (.int res)) hp
    replace hf := bnd hf
    obtain ⟨r5, hr5, hf⟩ := hf
    refine Fx.callV (rr := (some (.int r5))) (hp1 := hp) [.int v3, .int v4] [.int v2] lk_9_69 (by decide +kernel) (t_Mo_isKeyed sh c (hS) hp v3 v4 r5 hr5) ⟨Nat.le_of_ble_eq_true rfl, Nat.le_of_ble_eq_true rfl⟩ (hS).1 (by decide) rfl (Nat.le_of_ble_eq_true rfl) ?_
    show Fx q_Mo_kinds 5 sh 48 [some (.ref c), some (.int v1), some (.int v2), some (.int v3), some (.int v4)] [.int r5, .int v2] hp (some (.int res)) hp
    refine Fx.if_eq (20) 68 51 (by decide +kernel) (fun b6 => ?_) (fun b6 => ?_)
    · replace hf := ifp b6 hf
      refine Fx.run [(.iconst 0, 1, 0, 0, .int 0), (.iadd, 1, 0, 0, .null), (.istore_n 2, 1, 2, 0, .null), (.iinc 4 1, 3, 4, 0, .int 1)] 74 (by decide +kernel) ?_
      show Fx q_Mo_kinds 5 sh 74 [some (.ref c), some (.int v1), some (.int (v2 + 0)), some (.int v3), some (.int (v4 + 1))] [] hp (some (.int res)) hp
      refine Fx.goto (-45) 29 (by decide +kernel) ?_
      obtain rfl := Option.some.inj hf
      have hk : Fx q_Mo_kinds 5 sh 29 [some (.ref c), some (.int v1), some (.int (v2 + 0)), some (.int v3), some (.int (v4 + 1))] [] hp (some (.int res)) hp := hk
      exact Fx.le hk (And.intro rfl (And.intro rfl (And.intro rfl (And.intro rfl (And.intro rfl trivial)))))
    · replace hf := ifn b6 hf
      refine Fx.run [(.aload_n 0, 1, 0, 0, .null), (.iconst 0, 1, 0, 0, .int 0), (.iload_n 3, 1, 3, 0, .null), (.iconst 1, 1, 0, 0, .int 1), (.iload 4, 2, 4, 0, .null)] 57 (by decide +kernel) ?_
      show Fx q_Mo_kinds 5 sh 57 [some (.ref c), some (.int v1), some (.int v2), some (.int v3), some (.int v4)] [.int v4, .int 1, .int v3, .int 0, .ref c, .int v2] hp (some (.int res)) hp
      replace hf := bnd hf
      obtain ⟨r7, hr7, hf⟩ := hf
      refine Fx.callV (rr := (some (.int r7))) (hp1 := hp) [.int 0, .int v3, .int 1, .int v4] [.int v2] lk_9_66 (by decide +kernel) (t_Mo_kindBetween sh c (hS) hp 0 v3 1 v4 r7 hr7) ⟨Nat.le_of_ble_eq_true rfl, Nat.le_of_ble_eq_true rfl⟩ (hS).1 (by decide) rfl (Nat.le_of_ble_eq_true rfl) ?_
      show Fx q_Mo_kinds 5 sh 60 [some (.ref c), some (.int v1), some (.int v2), some (.int v3), some (.int v4)] [.int r7, .int v2] hp (some (.int res)) hp
      refine Fx.run [(.iload_n 1, 1, 1, 0, .null)] 61 (by decide +kernel) ?_
      show Fx q_Mo_kinds 5 sh 61 [some (.ref c), some (.int v1), some (.int v2), some (.int v3), some (.int v4)] [.int v1, .int r7, .int v2] hp (some (.int res)) hp
      refine Fx.icmp_ne (7) 68 64 (by decide +kernel) (fun b8 => ?_) (fun b8 => ?_)
      · replace hf := ifn b8 hf
        refine Fx.run [(.iconst 0, 1, 0, 0, .int 0), (.iadd, 1, 0, 0, .null), (.istore_n 2, 1, 2, 0, .null), (.iinc 4 1, 3, 4, 0, .int 1)] 74 (by decide +kernel) ?_
        show Fx q_Mo_kinds 5 sh 74 [some (.ref c), some (.int v1), some (.int (v2 + 0)), some (.int v3), some (.int (v4 + 1))] [] hp (some (.int res)) hp
        refine Fx.goto (-45) 29 (by decide +kernel) ?_
        obtain rfl := Option.some.inj hf
        have hk : Fx q_Mo_kinds 5 sh 29 [some (.ref c), some (.int v1), some (.int (v2 + 0)), some (.int v3), some (.int (v4 + 1))] [] hp (some (.int res)) hp := hk
        exact Fx.le hk (And.intro rfl (And.intro rfl (And.intro rfl (And.intro rfl (And.intro rfl trivial)))))
      · replace hf := ifp b8 hf
        refine Fx.run [(.iconst 1, 1, 0, 0, .int 1)] 65 (by decide +kernel) ?_
        show Fx q_Mo_kinds 5 sh 65 [some (.ref c), some (.int v1), some (.int v2), some (.int v3), some (.int v4)] [.int 1, .int v2] hp (some (.int res)) hp
        refine Fx.goto (4) 69 (by decide +kernel) ?_
        refine Fx.run [(.iadd, 1, 0, 0, .null), (.istore_n 2, 1, 2, 0, .null), (.iinc 4 1, 3, 4, 0, .int 1)] 74 (by decide +kernel) ?_
        show Fx q_Mo_kinds 5 sh 74 [some (.ref c), some (.int v1), some (.int (v2 + 1)), some (.int v3), some (.int (v4 + 1))] [] hp (some (.int res)) hp
        refine Fx.goto (-45) 29 (by decide +kernel) ?_
        obtain rfl := Option.some.inj hf
        have hk : Fx q_Mo_kinds 5 sh 29 [some (.ref c), some (.int v1), some (.int (v2 + 1)), some (.int v3), some (.int (v4 + 1))] [] hp (some (.int res)) hp := hk
        exact Fx.le hk (And.intro rfl (And.intro rfl (And.intro rfl (And.intro rfl (And.intro rfl trivial)))))
set_option maxHeartbeats 4000000 in
set_option maxRecDepth 20000 in
theorem t_Mo_kinds_l16 (sh : Shp) (c : Nat) (hS : S_Mo sh c) (hp : HP) (v1 : Int32) (res : Int32) : ∀ (s : (Int32 × Int32)) (t : Int32), f_Mo_kinds_l16 c hp v1 s = some t → (fun v => v = res) t → P_Mo_kinds_16 sh c hp v1 res s := by
  refine loop_ind (P_Mo_kinds_16 sh c hp v1 res) (fun v => v = res) ?_
  intro s t hf hk
  obtain ⟨v2, v3⟩ := s
  replace hf : f_Mo_kinds_b16 c hp v1 v2 v3 = some t := hf
  show Fx q_Mo_kinds 5 sh 16 [some (.ref c), some (.int v1), some (.int v2), some (.int v3), none] [] hp (some (.int res)) hp
  unfold f_Mo_kinds_b16 at hf
  refine Fx.run [(.iload_n 3, 1, 3, 0, .null), (.aload_n 0, 1, 0, 0, .null), (.getfield 9, 3, 9, 0, .ref 1), (.iconst 2, 1, 0, 0, .int 2), (.iaload, 1, 4100, 0, .null)] 23 (by decide +kernel) ?_
  show isK sh c 9 ∧ (isA sh (c + 1) 10 4100 ∧ inb 2 4100) ∧ Fx q_Mo_kinds 5 sh 23 [some (.ref c), some (.int v1), some (.int v2), some (.int v3), none] [.int (hp.1 (c + 1) (ix 2)), .int v3] hp (some (.int res)) hp
  refine ⟨hS.1, ⟨hS.2.1, (by decide)⟩, ?_⟩
  refine Fx.icmp_ge (60) 83 26 (by decide +kernel) (fun b3 => ?_) (fun b3 => ?_)
  · replace hf := ifp b3 hf
    replace hf := mpd hf
    obtain ⟨t, hf, rfl⟩ := hf
    refine Fx.run [(.iload_n 2, 1, 2, 0, .null)] 84 (by decide +kernel) ?_
    show Fx q_Mo_kinds 5 sh 84 [some (.ref c), some (.int v1), some (.int v2), some (.int v3), none] [.int v2] hp (some (.int res)) hp
    obtain rfl := Option.some.inj hf
    have hk : v2 = res := hk
    subst hk
    exact Fx.iret (by decide +kernel) rfl
  · replace hf := ifn b3 hf
    refine Fx.run [(.iconst 0, 1, 0, 0, .int 0), (.istore 4, 2, 4, 0, .null)] 29 (by decide +kernel) ?_
    show Fx q_Mo_kinds 5 sh 29 [some (.ref c), some (.int v1), some (.int v2), some (.int v3), some (.int 0)] [] hp (some (.int res)) hp
    have hl := t_Mo_kinds_l29 sh c hS hp v1 v3 res (v2, 0) _ hf hk
    have hl : Fx q_Mo_kinds 5 sh 29 [some (.ref c), some (.int v1), some (.int v2), some (.int v3), some (.int 0)] [] hp (some (.int res)) hp := hl
    exact Fx.le hl (And.intro rfl (And.intro rfl (And.intro rfl (And.intro rfl (And.intro rfl trivial)))))
set_option maxHeartbeats 4000000 in
set_option maxRecDepth 20000 in
theorem t_Mo_kinds (sh : Shp) (c : Nat) (hS : S_Mo sh c) (hp : HP) (v1 : Int32) (res : Int32) (hf : f_Mo_kinds c hp v1 = some res) : Ex 5 q_Mo_kinds sh [.ref c, .int v1] hp (some (.int res)) hp := by
  refine Ex.of [some (.ref c), some (.int v1), none, none, none] rfl (Nat.le_of_ble_eq_true rfl) (by decide +kernel) rfl ?_
  obtain ⟨t, hk⟩ : ∃ t, t = res := ⟨res, rfl⟩
  rw [← hk] at hf
  unfold f_Mo_kinds at hf
  refine Fx.run [(.iload_n 1, 1, 1, 0, .null), (.iconst 0, 1, 0, 0, .int 0), (.bipush 12, 2, 0, 0, .int 12)] 4 (by decide +kernel) ?_
  show Fx q_Mo_kinds 5 sh 4 [some (.ref c), some (.int v1), none, none, none] [.int 12, .int 0, .int v1] hp (some (.int res)) hp
  replace hf := bnd hf
  obtain ⟨r1, hr1, hf⟩ := hf
  refine Fx.callS (rr := (some (.int r1))) (hp1 := hp) [.int v1, .int 0, .int 12] [] lk_9_48 (by decide +kernel) (t_Mo_isIn sh hp v1 0 12 r1 hr1) ⟨Nat.le_of_ble_eq_true rfl, Nat.le_of_ble_eq_true rfl⟩ rfl (Nat.le_of_ble_eq_true rfl) ?_
  show Fx q_Mo_kinds 5 sh 7 [some (.ref c), some (.int v1), none, none, none] [.int r1] hp (some (.int res)) hp
  refine Fx.if_ne (5) 12 10 (by decide +kernel) (fun b2 => ?_) (fun b2 => ?_)
  · replace hf := ifn b2 hf
    refine Fx.run [(.iconst 0, 1, 0, 0, .int 0), (.istore_n 2, 1, 2, 0, .null), (.iconst 0, 1, 0, 0, .int 0), (.istore_n 3, 1, 3, 0, .null)] 16 (by decide +kernel) ?_
    show Fx q_Mo_kinds 5 sh 16 [some (.ref c), some (.int v1), some (.int 0), some (.int 0), none] [] hp (some (.int res)) hp
    have hl := t_Mo_kinds_l16 sh c hS hp v1 res (0, 0) _ hf hk
    have hl : Fx q_Mo_kinds 5 sh 16 [some (.ref c), some (.int v1), some (.int 0), some (.int 0), none] [] hp (some (.int res)) hp := hl
    exact Fx.le hl (And.intro rfl (And.intro rfl (And.intro rfl (And.intro rfl trivial))))
  · replace hf := ifp b2 hf
    refine Fx.run [(.iconst (-1), 1, 0, 0, .int (-1))] 11 (by decide +kernel) ?_
    show Fx q_Mo_kinds 5 sh 11 [some (.ref c), some (.int v1), none, none, none] [.int (-1)] hp (some (.int res)) hp
    obtain rfl := Option.some.inj hf
    have hk : (-1) = res := hk
    subst hk
    exact Fx.iret (by decide +kernel) rfl
abbrev P_Mo_shared_21 (sh : Shp) (c : Nat) (hp : HP) (v1 : Int32) (res : Int64) : (Int64 × Int32) → Prop := fun s => Fx q_Mo_shared 6 sh 21 [some (.ref c), some (.int v1), some (.long s.1), none, some (.int s.2), none] [] hp (some (.long res)) hp
abbrev P_Mo_shared_55 (sh : Shp) (c : Nat) (hp : HP) (v1 : Int32) (v4 : Int32) (res : Int64) : (Int64 × Int32) → Prop := fun s => Fx q_Mo_shared 6 sh 55 [some (.ref c), some (.int v1), some (.long s.1), none, some (.int v4), some (.int s.2)] [] hp (some (.long res)) hp
set_option maxHeartbeats 4000000 in
set_option maxRecDepth 20000 in
theorem t_Mo_shared_l55 (sh : Shp) (c : Nat) (hS : S_Mo sh c) (hp : HP) (v1 : Int32) (v4 : Int32) (res : Int64) : ∀ (s : (Int64 × Int32)) (t : ((Int64 × Int32) ⊕ Int64)), f_Mo_shared_l55 c hp v1 v4 s = some t → (Kel (P_Mo_shared_21 sh c hp v1 res) (fun v => v = res)) t → P_Mo_shared_55 sh c hp v1 v4 res s := by
  refine loop_ind (P_Mo_shared_55 sh c hp v1 v4 res) (Kel (P_Mo_shared_21 sh c hp v1 res) (fun v => v = res)) ?_
  intro s t hf hk
  obtain ⟨v2, v5⟩ := s
  replace hf : f_Mo_shared_b55 c hp v1 v4 v2 v5 = some t := hf
  show Fx q_Mo_shared 6 sh 55 [some (.ref c), some (.int v1), some (.long v2), none, some (.int v4), some (.int v5)] [] hp (some (.long res)) hp
  unfold f_Mo_shared_b55 at hf
  refine Fx.run [(.iload 5, 2, 5, 0, .null), (.aload_n 0, 1, 0, 0, .null), (.getfield 9, 3, 9, 0, .ref 1), (.iconst 3, 1, 0, 0, .int 3), (.iaload, 1, 4100, 0, .null)] 63 (by decide +kernel) ?_
  show isK sh c 9 ∧ (isA sh (c + 1) 10 4100 ∧ inb 3 4100) ∧ Fx q_Mo_shared 6 sh 63 [some (.ref c), some (.int v1), some (.long v2), none, some (.int v4), some (.int v5)] [.int (hp.1 (c + 1) (ix 3)), .int v5] hp (some (.long res)) hp
  refine ⟨hS.1, ⟨hS.2.1, (by decide)⟩, ?_⟩
  refine Fx.icmp_ge (36) 99 66 (by decide +kernel) (fun b4 => ?_) (fun b4 => ?_)
  · replace hf := ifp b4 hf
    replace hf := mpd hf
    obtain ⟨t, hf, rfl⟩ := hf
    refine Fx.run [(.iinc 4 1, 3, 4, 0, .int 1)] 102 (by decide +kernel) ?_
    show Fx q_Mo_shared 6 sh 102 [some (.ref c), some (.int v1), some (.long v2), none, some (.int (v4 + 1)), some (.int v5)] [] hp (some (.long res)) hp
    refine Fx.goto (-81) 21 (by decide +kernel) ?_
    obtain rfl := Option.some.inj hf
    have hk : Fx q_Mo_shared 6 sh 21 [some (.ref c), some (.int v1), some (.long v2), none, some (.int (v4 + 1)), none] [] hp (some (.long res)) hp := hk
    exact Fx.le hk (And.intro rfl (And.intro rfl (And.intro rfl (And.intro rfl trivial))))
  · replace hf := ifn b4 hf
    refine Fx.run [(.lload_n 2, 1, 2, 0, .null), (.aload_n 0, 1, 0, 0, .null), (.iload 4, 2, 4, 0, .null), (.iload 5, 2, 5, 0, .null)] 72 (by decide +kernel) ?_
    show Fx q_Mo_shared 6 sh 72 [some (.ref c), some (.int v1), some (.long v2), none, some (.int v4), some (.int v5)] [.int v5, .int v4, .ref c, .long v2] hp (some (.long res)) hp
    replace hf := bnd hf
    obtain ⟨r5, hr5, hf⟩ := hf
    refine Fx.callV (rr := (some (.int r5))) (hp1 := hp) [.int v4, .int v5] [.long v2] lk_9_76 (by decide +kernel) (t_Mo_arePartners sh c (hS) hp v4 v5 r5 hr5) ⟨Nat.le_of_ble_eq_true rfl, Nat.le_of_ble_eq_true rfl⟩ (hS).1 (by decide) rfl (Nat.le_of_ble_eq_true rfl) ?_
    show Fx q_Mo_shared 6 sh 75 [some (.ref c), some (.int v1), some (.long v2), none, some (.int v4), some (.int v5)] [.int r5, .long v2] hp (some (.long res)) hp
    refine Fx.if_eq (15) 90 78 (by decide +kernel) (fun b6 => ?_) (fun b6 => ?_)
    · replace hf := ifp b6 hf
      refine Fx.run [(.lconst 0, 1, 0, 0, .long 0), (.ladd, 1, 0, 0, .null), (.lstore_n 2, 1, 2, 0, .null), (.iinc 5 1, 3, 5, 0, .int 1)] 96 (by decide +kernel) ?_
      show Fx q_Mo_shared 6 sh 96 [some (.ref c), some (.int v1), some (.long (v2 + 0)), none, some (.int v4), some (.int (v5 + 1))] [] hp (some (.long res)) hp
      refine Fx.goto (-41) 55 (by decide +kernel) ?_
      obtain rfl := Option.some.inj hf
      have hk : Fx q_Mo_shared 6 sh 55 [some (.ref c), some (.int v1), some (.long (v2 + 0)), none, some (.int v4), some (.int (v5 + 1))] [] hp (some (.long res)) hp := hk
      exact Fx.le hk (And.intro rfl (And.intro rfl (And.intro rfl (And.intro rfl (And.intro rfl trivial)))))
    · replace hf := ifn b6 hf
      refine Fx.run [(.aload_n 0, 1, 0, 0, .null), (.iload 4, 2, 4, 0, .null), (.iload 5, 2, 5, 0, .null)] 83 (by decide +kernel) ?_
      show Fx q_Mo_shared 6 sh 83 [some (.ref c), some (.int v1), some (.long v2), none, some (.int v4), some (.int v5)] [.int v5, .int v4, .ref c, .long v2] hp (some (.long res)) hp
      replace hf := bnd hf
      obtain ⟨r7, hr7, hf⟩ := hf
      refine Fx.callV (rr := (some (.int r7))) (hp1 := hp) [.int v4, .int v5] [.long v2] lk_9_170 (by decide +kernel) (t_Mo_sharedLong sh c (hS) hp v4 v5 r7 hr7) ⟨Nat.le_of_ble_eq_true rfl, Nat.le_of_ble_eq_true rfl⟩ (hS).1 (by decide) rfl (Nat.le_of_ble_eq_true rfl) ?_
      show Fx q_Mo_shared 6 sh 86 [some (.ref c), some (.int v1), some (.long v2), none, some (.int v4), some (.int v5)] [.int r7, .long v2] hp (some (.long res)) hp
      refine Fx.run [(.i2l, 1, 0, 0, .null)] 87 (by decide +kernel) ?_
      show Fx q_Mo_shared 6 sh 87 [some (.ref c), some (.int v1), some (.long v2), none, some (.int v4), some (.int v5)] [.long (Int32.toInt64 r7), .long v2] hp (some (.long res)) hp
      refine Fx.goto (4) 91 (by decide +kernel) ?_
      refine Fx.run [(.ladd, 1, 0, 0, .null), (.lstore_n 2, 1, 2, 0, .null), (.iinc 5 1, 3, 5, 0, .int 1)] 96 (by decide +kernel) ?_
      show Fx q_Mo_shared 6 sh 96 [some (.ref c), some (.int v1), some (.long (v2 + (Int32.toInt64 r7))), none, some (.int v4), some (.int (v5 + 1))] [] hp (some (.long res)) hp
      refine Fx.goto (-41) 55 (by decide +kernel) ?_
      obtain rfl := Option.some.inj hf
      have hk : Fx q_Mo_shared 6 sh 55 [some (.ref c), some (.int v1), some (.long (v2 + (Int32.toInt64 r7))), none, some (.int v4), some (.int (v5 + 1))] [] hp (some (.long res)) hp := hk
      exact Fx.le hk (And.intro rfl (And.intro rfl (And.intro rfl (And.intro rfl (And.intro rfl trivial)))))
set_option maxHeartbeats 4000000 in
set_option maxRecDepth 20000 in
theorem t_Mo_shared_l21 (sh : Shp) (c : Nat) (hS : S_Mo sh c) (hp : HP) (v1 : Int32) (res : Int64) : ∀ (s : (Int64 × Int32)) (t : Int64), f_Mo_shared_l21 c hp v1 s = some t → (fun v => v = res) t → P_Mo_shared_21 sh c hp v1 res s := by
  refine loop_ind (P_Mo_shared_21 sh c hp v1 res) (fun v => v = res) ?_
  intro s t hf hk
  obtain ⟨v2, v4⟩ := s
  replace hf : f_Mo_shared_b21 c hp v1 v2 v4 = some t := hf
  show Fx q_Mo_shared 6 sh 21 [some (.ref c), some (.int v1), some (.long v2), none, some (.int v4), none] [] hp (some (.long res)) hp
  unfold f_Mo_shared_b21 at hf
  refine Fx.run [(.iload 4, 2, 4, 0, .null), (.aload_n 0, 1, 0, 0, .null), (.getfield 9, 3, 9, 0, .ref 1), (.iconst 2, 1, 0, 0, .int 2), (.iaload, 1, 4100, 0, .null)] 29 (by decide +kernel) ?_
  show isK sh c 9 ∧ (isA sh (c + 1) 10 4100 ∧ inb 2 4100) ∧ Fx q_Mo_shared 6 sh 29 [some (.ref c), some (.int v1), some (.long v2), none, some (.int v4), none] [.int (hp.1 (c + 1) (ix 2)), .int v4] hp (some (.long res)) hp
  refine ⟨hS.1, ⟨hS.2.1, (by decide)⟩, ?_⟩
  refine Fx.icmp_ge (76) 105 32 (by decide +kernel) (fun b2 => ?_) (fun b2 => ?_)
  · replace hf := ifp b2 hf
    replace hf := mpd hf
    obtain ⟨t, hf, rfl⟩ := hf
    refine Fx.run [(.lload_n 2, 1, 2, 0, .null)] 106 (by decide +kernel) ?_
    show Fx q_Mo_shared 6 sh 106 [some (.ref c), some (.int v1), some (.long v2), none, some (.int v4), none] [.long v2] hp (some (.long res)) hp
    obtain rfl := Option.some.inj hf
    have hk : v2 = res := hk
    subst hk
    exact Fx.lret (by decide +kernel) rfl
  · replace hf := ifn b2 hf
    refine Fx.run [(.iload_n 1, 1, 1, 0, .null), (.iconst (-1), 1, 0, 0, .int (-1))] 34 (by decide +kernel) ?_
    show Fx q_Mo_shared 6 sh 34 [some (.ref c), some (.int v1), some (.long v2), none, some (.int v4), none] [.int (-1), .int v1] hp (some (.long res)) hp
    refine Fx.icmp_eq (18) 52 37 (by decide +kernel) (fun b3 => ?_) (fun b3 => ?_)
    · replace hf := ifp b3 hf
      refine Fx.run [(.iconst 0, 1, 0, 0, .int 0), (.istore 5, 2, 5, 0, .null)] 55 (by decide +kernel) ?_
      show Fx q_Mo_shared 6 sh 55 [some (.ref c), some (.int v1), some (.long v2), none, some (.int v4), some (.int 0)] [] hp (some (.long res)) hp
      have hl := t_Mo_shared_l55 sh c hS hp v1 v4 res (v2, 0) _ hf hk
      have hl : Fx q_Mo_shared 6 sh 55 [some (.ref c), some (.int v1), some (.long v2), none, some (.int v4), some (.int 0)] [] hp (some (.long res)) hp := hl
      exact Fx.le hl (And.intro rfl (And.intro rfl (And.intro rfl (And.intro rfl (And.intro rfl trivial)))))
    · replace hf := ifn b3 hf
      refine Fx.run [(.aload_n 0, 1, 0, 0, .null), (.iconst 0, 1, 0, 0, .int 0), (.iload 4, 2, 4, 0, .null), (.iconst 1, 1, 0, 0, .int 1)] 42 (by decide +kernel) ?_
      show Fx q_Mo_shared 6 sh 42 [some (.ref c), some (.int v1), some (.long v2), none, some (.int v4), none] [.int 1, .int v4, .int 0, .ref c] hp (some (.long res)) hp
      replace hf := bnd hf
      obtain ⟨r8, hr8, hf⟩ := hf
      refine Fx.callV (rr := (some (.int r8))) (hp1 := hp) [.int 0, .int v4, .int 1] [] lk_9_44 (by decide +kernel) (t_Mo_of sh c (hS) hp 0 v4 1 r8 hr8) ⟨Nat.le_of_ble_eq_true rfl, Nat.le_of_ble_eq_true rfl⟩ (hS).1 (by decide) rfl (Nat.le_of_ble_eq_true rfl) ?_
      show Fx q_Mo_shared 6 sh 45 [some (.ref c), some (.int v1), some (.long v2), none, some (.int v4), none] [.int r8] hp (some (.long res)) hp
      refine Fx.run [(.iload_n 1, 1, 1, 0, .null)] 46 (by decide +kernel) ?_
      show Fx q_Mo_shared 6 sh 46 [some (.ref c), some (.int v1), some (.long v2), none, some (.int v4), none] [.int v1, .int r8] hp (some (.long res)) hp
      refine Fx.icmp_eq (6) 52 49 (by decide +kernel) (fun b9 => ?_) (fun b9 => ?_)
      · replace hf := ifp b9 hf
        refine Fx.run [(.iconst 0, 1, 0, 0, .int 0), (.istore 5, 2, 5, 0, .null)] 55 (by decide +kernel) ?_
        show Fx q_Mo_shared 6 sh 55 [some (.ref c), some (.int v1), some (.long v2), none, some (.int v4), some (.int 0)] [] hp (some (.long res)) hp
        have hl := t_Mo_shared_l55 sh c hS hp v1 v4 res (v2, 0) _ hf hk
        have hl : Fx q_Mo_shared 6 sh 55 [some (.ref c), some (.int v1), some (.long v2), none, some (.int v4), some (.int 0)] [] hp (some (.long res)) hp := hl
        exact Fx.le hl (And.intro rfl (And.intro rfl (And.intro rfl (And.intro rfl (And.intro rfl trivial)))))
      · replace hf := ifn b9 hf
        refine Fx.goto (50) 99 (by decide +kernel) ?_
        refine Fx.run [(.iinc 4 1, 3, 4, 0, .int 1)] 102 (by decide +kernel) ?_
        show Fx q_Mo_shared 6 sh 102 [some (.ref c), some (.int v1), some (.long v2), none, some (.int (v4 + 1)), none] [] hp (some (.long res)) hp
        refine Fx.goto (-81) 21 (by decide +kernel) ?_
        obtain rfl := Option.some.inj hf
        have hk : Fx q_Mo_shared 6 sh 21 [some (.ref c), some (.int v1), some (.long v2), none, some (.int (v4 + 1)), none] [] hp (some (.long res)) hp := hk
        exact Fx.le hk (And.intro rfl (And.intro rfl (And.intro rfl (And.intro rfl trivial))))
set_option maxHeartbeats 4000000 in
set_option maxRecDepth 20000 in
theorem t_Mo_shared (sh : Shp) (c : Nat) (hS : S_Mo sh c) (hp : HP) (v1 : Int32) (res : Int64) (hf : f_Mo_shared c hp v1 = some res) : Ex 6 q_Mo_shared sh [.ref c, .int v1] hp (some (.long res)) hp := by
  refine Ex.of [some (.ref c), some (.int v1), none, none, none, none] rfl (Nat.le_of_ble_eq_true rfl) (by decide +kernel) rfl ?_
  obtain ⟨t, hk⟩ : ∃ t, t = res := ⟨res, rfl⟩
  rw [← hk] at hf
  unfold f_Mo_shared at hf
  refine Fx.run [(.iload_n 1, 1, 1, 0, .null), (.iconst (-1), 1, 0, 0, .int (-1))] 2 (by decide +kernel) ?_
  show Fx q_Mo_shared 6 sh 2 [some (.ref c), some (.int v1), none, none, none, none] [.int (-1), .int v1] hp (some (.long res)) hp
  refine Fx.icmp_eq (14) 16 5 (by decide +kernel) (fun b1 => ?_) (fun b1 => ?_)
  · replace hf := ifp b1 hf
    refine Fx.run [(.lconst 0, 1, 0, 0, .long 0), (.lstore_n 2, 1, 2, 0, .null), (.iconst 0, 1, 0, 0, .int 0), (.istore 4, 2, 4, 0, .null)] 21 (by decide +kernel) ?_
    show Fx q_Mo_shared 6 sh 21 [some (.ref c), some (.int v1), some (.long 0), none, some (.int 0), none] [] hp (some (.long res)) hp
    have hl := t_Mo_shared_l21 sh c hS hp v1 res (0, 0) _ hf hk
    have hl : Fx q_Mo_shared 6 sh 21 [some (.ref c), some (.int v1), some (.long 0), none, some (.int 0), none] [] hp (some (.long res)) hp := hl
    exact Fx.le hl (And.intro rfl (And.intro rfl (And.intro rfl (And.intro rfl trivial))))
  · replace hf := ifn b1 hf
    refine Fx.run [(.iload_n 1, 1, 1, 0, .null)] 6 (by decide +kernel) ?_
    show Fx q_Mo_shared 6 sh 6 [some (.ref c), some (.int v1), none, none, none, none] [.int v1] hp (some (.long res)) hp
    replace hf := bnd hf
    obtain ⟨r10, hr10, hf⟩ := hf
    refine Fx.callS (rr := (some (.int r10))) (hp1 := hp) [.int v1] [] lk_9_94 (by decide +kernel) (t_Mo_isKey sh hp v1 r10 hr10) ⟨Nat.le_of_ble_eq_true rfl, Nat.le_of_ble_eq_true rfl⟩ rfl (Nat.le_of_ble_eq_true rfl) ?_
    show Fx q_Mo_shared 6 sh 9 [some (.ref c), some (.int v1), none, none, none, none] [.int r10] hp (some (.long res)) hp
    refine Fx.if_ne (7) 16 12 (by decide +kernel) (fun b11 => ?_) (fun b11 => ?_)
    · replace hf := ifn b11 hf
      refine Fx.run [(.lconst 0, 1, 0, 0, .long 0), (.lstore_n 2, 1, 2, 0, .null), (.iconst 0, 1, 0, 0, .int 0), (.istore 4, 2, 4, 0, .null)] 21 (by decide +kernel) ?_
      show Fx q_Mo_shared 6 sh 21 [some (.ref c), some (.int v1), some (.long 0), none, some (.int 0), none] [] hp (some (.long res)) hp
      have hl := t_Mo_shared_l21 sh c hS hp v1 res (0, 0) _ hf hk
      have hl : Fx q_Mo_shared 6 sh 21 [some (.ref c), some (.int v1), some (.long 0), none, some (.int 0), none] [] hp (some (.long res)) hp := hl
      exact Fx.le hl (And.intro rfl (And.intro rfl (And.intro rfl (And.intro rfl trivial))))
    · replace hf := ifp b11 hf
      refine Fx.run [(.ldc2_w 176, 3, 0, 0, .long (-1))] 15 (by decide +kernel) ?_
      show Fx q_Mo_shared 6 sh 15 [some (.ref c), some (.int v1), none, none, none, none] [.long (-1)] hp (some (.long res)) hp
      obtain rfl := Option.some.inj hf
      have hk : (-1) = res := hk
      subst hk
      exact Fx.lret (by decide +kernel) rfl
abbrev P_Mo_weight_23 (sh : Shp) (c : Nat) (hp : HP) (v1 : Int32) (v2 : Int32) (res : Int64) : (Int64 × Int32) → Prop := fun s => Fx q_Mo_weight 4 sh 23 [some (.ref c), some (.int v1), some (.int v2), some (.long s.1), none, some (.int s.2)] [] hp (some (.long res)) hp
set_option maxHeartbeats 4000000 in
set_option maxRecDepth 20000 in
theorem t_Mo_weight_l23 (sh : Shp) (c : Nat) (hS : S_Mo sh c) (hp : HP) (v1 : Int32) (v2 : Int32) (res : Int64) : ∀ (s : (Int64 × Int32)) (t : Int64), f_Mo_weight_l23 c hp v1 v2 s = some t → (fun v => v = res) t → P_Mo_weight_23 sh c hp v1 v2 res s := by
  refine loop_ind (P_Mo_weight_23 sh c hp v1 v2 res) (fun v => v = res) ?_
  intro s t hf hk
  obtain ⟨v3, v5⟩ := s
  replace hf : f_Mo_weight_b23 c hp v1 v2 v3 v5 = some t := hf
  show Fx q_Mo_weight 4 sh 23 [some (.ref c), some (.int v1), some (.int v2), some (.long v3), none, some (.int v5)] [] hp (some (.long res)) hp
  unfold f_Mo_weight_b23 at hf
  replace hf := gd hf
  obtain ⟨g5, hf⟩ := hf
  refine Fx.run [(.iload 5, 2, 5, 0, .null), (.aload_n 0, 1, 0, 0, .null), (.getfield 9, 3, 9, 0, .ref 1), (.iconst 2, 1, 0, 0, .int 2), (.iload_n 1, 1, 1, 0, .null), (.iadd, 1, 0, 0, .null), (.iaload, 1, 4100, 0, .null)] 33 (by decide +kernel) ?_
  show isK sh c 9 ∧ (isA sh (c + 1) 10 4100 ∧ inb (2 + v1) 4100) ∧ Fx q_Mo_weight 4 sh 33 [some (.ref c), some (.int v1), some (.int v2), some (.long v3), none, some (.int v5)] [.int (hp.1 (c + 1) (ix (2 + v1))), .int v5] hp (some (.long res)) hp
  refine ⟨hS.1, ⟨hS.2.1, g5⟩, ?_⟩
  refine Fx.icmp_ge (46) 79 36 (by decide +kernel) (fun b6 => ?_) (fun b6 => ?_)
  · replace hf := ifp b6 hf
    replace hf := mpd hf
    obtain ⟨t, hf, rfl⟩ := hf
    refine Fx.run [(.lload_n 3, 1, 3, 0, .null)] 80 (by decide +kernel) ?_
    show Fx q_Mo_weight 4 sh 80 [some (.ref c), some (.int v1), some (.int v2), some (.long v3), none, some (.int v5)] [.long v3] hp (some (.long res)) hp
    obtain rfl := Option.some.inj hf
    have hk : v3 = res := hk
    subst hk
    exact Fx.lret (by decide +kernel) rfl
  · replace hf := ifn b6 hf
    refine Fx.run [(.lload_n 3, 1, 3, 0, .null), (.aload_n 0, 1, 0, 0, .null), (.iload_n 1, 1, 1, 0, .null), (.iload 5, 2, 5, 0, .null), (.iconst 1, 1, 0, 0, .int 1)] 42 (by decide +kernel) ?_
    show Fx q_Mo_weight 4 sh 42 [some (.ref c), some (.int v1), some (.int v2), some (.long v3), none, some (.int v5)] [.int 1, .int v5, .int v1, .ref c, .long v3] hp (some (.long res)) hp
    replace hf := bnd hf
    obtain ⟨r7, hr7, hf⟩ := hf
    refine Fx.callV (rr := (some (.int r7))) (hp1 := hp) [.int v1, .int v5, .int 1] [.long v3] lk_9_44 (by decide +kernel) (t_Mo_of sh c (hS) hp v1 v5 1 r7 hr7) ⟨Nat.le_of_ble_eq_true rfl, Nat.le_of_ble_eq_true rfl⟩ (hS).1 (by decide) rfl (Nat.le_of_ble_eq_true rfl) ?_
    show Fx q_Mo_weight 4 sh 45 [some (.ref c), some (.int v1), some (.int v2), some (.long v3), none, some (.int v5)] [.int r7, .long v3] hp (some (.long res)) hp
    refine Fx.run [(.iload_n 2, 1, 2, 0, .null)] 46 (by decide +kernel) ?_
    show Fx q_Mo_weight 4 sh 46 [some (.ref c), some (.int v1), some (.int v2), some (.long v3), none, some (.int v5)] [.int v2, .int r7, .long v3] hp (some (.long res)) hp
    refine Fx.icmp_ne (24) 70 49 (by decide +kernel) (fun b8 => ?_) (fun b8 => ?_)
    · replace hf := ifn b8 hf
      refine Fx.run [(.lconst 0, 1, 0, 0, .long 0), (.ladd, 1, 0, 0, .null), (.lstore_n 3, 1, 3, 0, .null), (.iinc 5 1, 3, 5, 0, .int 1)] 76 (by decide +kernel) ?_
      show Fx q_Mo_weight 4 sh 76 [some (.ref c), some (.int v1), some (.int v2), some (.long (v3 + 0)), none, some (.int (v5 + 1))] [] hp (some (.long res)) hp
      refine Fx.goto (-53) 23 (by decide +kernel) ?_
      obtain rfl := Option.some.inj hf
      have hk : Fx q_Mo_weight 4 sh 23 [some (.ref c), some (.int v1), some (.int v2), some (.long (v3 + 0)), none, some (.int (v5 + 1))] [] hp (some (.long res)) hp := hk
      exact Fx.le hk (And.intro rfl (And.intro rfl (And.intro rfl (And.intro rfl (And.intro rfl trivial)))))
    · replace hf := ifp b8 hf
      refine Fx.run [(.aload_n 0, 1, 0, 0, .null), (.iload_n 1, 1, 1, 0, .null), (.iload 5, 2, 5, 0, .null), (.iconst 4, 1, 0, 0, .int 4)] 54 (by decide +kernel) ?_
      show Fx q_Mo_weight 4 sh 54 [some (.ref c), some (.int v1), some (.int v2), some (.long v3), none, some (.int v5)] [.int 4, .int v5, .int v1, .ref c, .long v3] hp (some (.long res)) hp
      replace hf := bnd hf
      obtain ⟨r9, hr9, hf⟩ := hf
      refine Fx.callV (rr := (some (.int r9))) (hp1 := hp) [.int v1, .int v5, .int 4] [.long v3] lk_9_44 (by decide +kernel) (t_Mo_of sh c (hS) hp v1 v5 4 r9 hr9) ⟨Nat.le_of_ble_eq_true rfl, Nat.le_of_ble_eq_true rfl⟩ (hS).1 (by decide) rfl (Nat.le_of_ble_eq_true rfl) ?_
      show Fx q_Mo_weight 4 sh 57 [some (.ref c), some (.int v1), some (.int v2), some (.long v3), none, some (.int v5)] [.int r9, .long v3] hp (some (.long res)) hp
      refine Fx.run [(.i2l, 1, 0, 0, .null), (.aload_n 0, 1, 0, 0, .null), (.iload_n 1, 1, 1, 0, .null), (.iload 5, 2, 5, 0, .null)] 62 (by decide +kernel) ?_
      show Fx q_Mo_weight 4 sh 62 [some (.ref c), some (.int v1), some (.int v2), some (.long v3), none, some (.int v5)] [.int v5, .int v1, .ref c, .long (Int32.toInt64 r9), .long v3] hp (some (.long res)) hp
      replace hf := bnd hf
      obtain ⟨r10, hr10, hf⟩ := hf
      refine Fx.callV (rr := (some (.int r10))) (hp1 := hp) [.int v1, .int v5] [.long (Int32.toInt64 r9), .long v3] lk_9_178 (by decide +kernel) (t_Mo_longOf sh c (hS) hp v1 v5 r10 hr10) ⟨Nat.le_of_ble_eq_true rfl, Nat.le_of_ble_eq_true rfl⟩ (hS).1 (by decide) rfl (Nat.le_of_ble_eq_true rfl) ?_
      show Fx q_Mo_weight 4 sh 65 [some (.ref c), some (.int v1), some (.int v2), some (.long v3), none, some (.int v5)] [.int r10, .long (Int32.toInt64 r9), .long v3] hp (some (.long res)) hp
      refine Fx.run [(.i2l, 1, 0, 0, .null), (.lmul, 1, 0, 0, .null)] 67 (by decide +kernel) ?_
      show Fx q_Mo_weight 4 sh 67 [some (.ref c), some (.int v1), some (.int v2), some (.long v3), none, some (.int v5)] [.long ((Int32.toInt64 r9) * (Int32.toInt64 r10)), .long v3] hp (some (.long res)) hp
      refine Fx.goto (4) 71 (by decide +kernel) ?_
      refine Fx.run [(.ladd, 1, 0, 0, .null), (.lstore_n 3, 1, 3, 0, .null), (.iinc 5 1, 3, 5, 0, .int 1)] 76 (by decide +kernel) ?_
      show Fx q_Mo_weight 4 sh 76 [some (.ref c), some (.int v1), some (.int v2), some (.long (v3 + ((Int32.toInt64 r9) * (Int32.toInt64 r10)))), none, some (.int (v5 + 1))] [] hp (some (.long res)) hp
      refine Fx.goto (-53) 23 (by decide +kernel) ?_
      obtain rfl := Option.some.inj hf
      have hk : Fx q_Mo_weight 4 sh 23 [some (.ref c), some (.int v1), some (.int v2), some (.long (v3 + ((Int32.toInt64 r9) * (Int32.toInt64 r10)))), none, some (.int (v5 + 1))] [] hp (some (.long res)) hp := hk
      exact Fx.le hk (And.intro rfl (And.intro rfl (And.intro rfl (And.intro rfl (And.intro rfl trivial)))))
set_option maxHeartbeats 4000000 in
set_option maxRecDepth 20000 in
theorem t_Mo_weight (sh : Shp) (c : Nat) (hS : S_Mo sh c) (hp : HP) (v1 : Int32) (v2 : Int32) (res : Int64) (hf : f_Mo_weight c hp v1 v2 = some res) : Ex 4 q_Mo_weight sh [.ref c, .int v1, .int v2] hp (some (.long res)) hp := by
  refine Ex.of [some (.ref c), some (.int v1), some (.int v2), none, none, none] rfl (Nat.le_of_ble_eq_true rfl) (by decide +kernel) rfl ?_
  obtain ⟨t, hk⟩ : ∃ t, t = res := ⟨res, rfl⟩
  rw [← hk] at hf
  unfold f_Mo_weight at hf
  refine Fx.run [(.iload_n 1, 1, 1, 0, .null)] 1 (by decide +kernel) ?_
  show Fx q_Mo_weight 4 sh 1 [some (.ref c), some (.int v1), some (.int v2), none, none, none] [.int v1] hp (some (.long res)) hp
  replace hf := bnd hf
  obtain ⟨r1, hr1, hf⟩ := hf
  refine Fx.callS (rr := (some (.int r1))) (hp1 := hp) [.int v1] [] lk_9_52 (by decide +kernel) (t_Mo_isSide sh hp v1 r1 hr1) ⟨Nat.le_of_ble_eq_true rfl, Nat.le_of_ble_eq_true rfl⟩ rfl (Nat.le_of_ble_eq_true rfl) ?_
  show Fx q_Mo_weight 4 sh 4 [some (.ref c), some (.int v1), some (.int v2), none, none, none] [.int r1] hp (some (.long res)) hp
  refine Fx.if_eq (10) 14 7 (by decide +kernel) (fun b2 => ?_) (fun b2 => ?_)
  · replace hf := ifp b2 hf
    refine Fx.run [(.ldc2_w 176, 3, 0, 0, .long (-1))] 17 (by decide +kernel) ?_
    show Fx q_Mo_weight 4 sh 17 [some (.ref c), some (.int v1), some (.int v2), none, none, none] [.long (-1)] hp (some (.long res)) hp
    obtain rfl := Option.some.inj hf
    have hk : (-1) = res := hk
    subst hk
    exact Fx.lret (by decide +kernel) rfl
  · replace hf := ifn b2 hf
    refine Fx.run [(.iload_n 2, 1, 2, 0, .null)] 8 (by decide +kernel) ?_
    show Fx q_Mo_weight 4 sh 8 [some (.ref c), some (.int v1), some (.int v2), none, none, none] [.int v2] hp (some (.long res)) hp
    replace hf := bnd hf
    obtain ⟨r3, hr3, hf⟩ := hf
    refine Fx.callS (rr := (some (.int r3))) (hp1 := hp) [.int v2] [] lk_9_94 (by decide +kernel) (t_Mo_isKey sh hp v2 r3 hr3) ⟨Nat.le_of_ble_eq_true rfl, Nat.le_of_ble_eq_true rfl⟩ rfl (Nat.le_of_ble_eq_true rfl) ?_
    show Fx q_Mo_weight 4 sh 11 [some (.ref c), some (.int v1), some (.int v2), none, none, none] [.int r3] hp (some (.long res)) hp
    refine Fx.if_ne (7) 18 14 (by decide +kernel) (fun b4 => ?_) (fun b4 => ?_)
    · replace hf := ifn b4 hf
      refine Fx.run [(.lconst 0, 1, 0, 0, .long 0), (.lstore_n 3, 1, 3, 0, .null), (.iconst 0, 1, 0, 0, .int 0), (.istore 5, 2, 5, 0, .null)] 23 (by decide +kernel) ?_
      show Fx q_Mo_weight 4 sh 23 [some (.ref c), some (.int v1), some (.int v2), some (.long 0), none, some (.int 0)] [] hp (some (.long res)) hp
      have hl := t_Mo_weight_l23 sh c hS hp v1 v2 res (0, 0) _ hf hk
      have hl : Fx q_Mo_weight 4 sh 23 [some (.ref c), some (.int v1), some (.int v2), some (.long 0), none, some (.int 0)] [] hp (some (.long res)) hp := hl
      exact Fx.le hl (And.intro rfl (And.intro rfl (And.intro rfl (And.intro rfl (And.intro rfl trivial)))))
    · replace hf := ifp b4 hf
      refine Fx.run [(.ldc2_w 176, 3, 0, 0, .long (-1))] 17 (by decide +kernel) ?_
      show Fx q_Mo_weight 4 sh 17 [some (.ref c), some (.int v1), some (.int v2), none, none, none] [.long (-1)] hp (some (.long res)) hp
      obtain rfl := Option.some.inj hf
      have hk : (-1) = res := hk
      subst hk
      exact Fx.lret (by decide +kernel) rfl
set_option maxHeartbeats 4000000 in
set_option maxRecDepth 20000 in
theorem t_Mo_adds (sh : Shp) (c : Nat) (hS : S_Mo sh c) (hp : HP) (v1 : Int32) (v2 : Int32) (v3 : Int32) (res : HP) (hf : f_Mo_adds c hp v1 v2 v3 = some res) : Ex 1 q_Mo_adds sh [.ref c, .int v1, .int v2, .int v3] hp none res := by
  refine Ex.of [some (.ref c), some (.int v1), some (.int v2), some (.int v3)] rfl (Nat.le_of_ble_eq_true rfl) (by decide +kernel) rfl ?_
  obtain ⟨t, hk⟩ : ∃ t, t = res := ⟨res, rfl⟩
  rw [← hk] at hf
  unfold f_Mo_adds at hf
  replace hf := gd hf
  obtain ⟨g1, hf⟩ := hf
  replace hf := gd hf
  obtain ⟨g2, hf⟩ := hf
  replace hf := gd hf
  obtain ⟨g3, hf⟩ := hf
  refine Fx.run [(.aload_n 0, 1, 0, 0, .null), (.getfield 16, 3, 9, 3, .ref 3), (.aload_n 0, 1, 0, 0, .null), (.getfield 181, 3, 9, 6, .null), (.iload_n 1, 1, 1, 0, .null), (.iastore, 1, 200, 0, .null), (.aload_n 0, 1, 0, 0, .null), (.getfield 19, 3, 9, 4, .ref 4), (.aload_n 0, 1, 0, 0, .null), (.getfield 181, 3, 9, 6, .null), (.iload_n 2, 1, 2, 0, .null), (.iastore, 1, 200, 0, .null), (.aload_n 0, 1, 0, 0, .null), (.getfield 22, 3, 9, 5, .ref 5), (.aload_n 0, 1, 0, 0, .null), (.getfield 181, 3, 9, 6, .null), (.iload_n 3, 1, 3, 0, .null), (.iastore, 1, 200, 0, .null), (.aload_n 0, 1, 0, 0, .null), (.dup, 1, 0, 0, .null), (.getfield 181, 3, 9, 6, .null), (.iconst 1, 1, 0, 0, .int 1), (.iadd, 1, 0, 0, .null), (.putfield 181, 3, 9, 6, .null)] 40 (by decide +kernel) ?_
  show isK sh c 9 ∧ isK sh c 9 ∧ (isA sh (c + 3) 10 200 ∧ inb (hp.1 c 6) 200) ∧ isK sh c 9 ∧ isK sh c 9 ∧ (isA sh (c + 4) 10 200 ∧ inb ((upI hp (c + 3) (ix (hp.1 c 6)) v1).1 c 6) 200) ∧ isK sh c 9 ∧ isK sh c 9 ∧ (isA sh (c + 5) 10 200 ∧ inb ((upI (upI hp (c + 3) (ix (hp.1 c 6)) v1) (c + 4) (ix ((upI hp (c + 3) (ix (hp.1 c 6)) v1).1 c 6)) v2).1 c 6) 200) ∧ isK sh c 9 ∧ isK sh c 9 ∧ Fx q_Mo_adds 1 sh 40 [some (.ref c), some (.int v1), some (.int v2), some (.int v3)] [] (upI (upI (upI (upI hp (c + 3) (ix (hp.1 c 6)) v1) (c + 4) (ix ((upI hp (c + 3) (ix (hp.1 c 6)) v1).1 c 6)) v2) (c + 5) (ix ((upI (upI hp (c + 3) (ix (hp.1 c 6)) v1) (c + 4) (ix ((upI hp (c + 3) (ix (hp.1 c 6)) v1).1 c 6)) v2).1 c 6)) v3) c 6 (((upI (upI (upI hp (c + 3) (ix (hp.1 c 6)) v1) (c + 4) (ix ((upI hp (c + 3) (ix (hp.1 c 6)) v1).1 c 6)) v2) (c + 5) (ix ((upI (upI hp (c + 3) (ix (hp.1 c 6)) v1) (c + 4) (ix ((upI hp (c + 3) (ix (hp.1 c 6)) v1).1 c 6)) v2).1 c 6)) v3).1 c 6) + 1)) none res
  refine ⟨hS.1, hS.1, ⟨hS.2.2.2.1, g1⟩, hS.1, hS.1, ⟨hS.2.2.2.2.1, g2⟩, hS.1, hS.1, ⟨hS.2.2.2.2.2.1, g3⟩, hS.1, hS.1, ?_⟩
  obtain rfl := Option.some.inj hf
  have hk : (upI (upI (upI (upI hp (c + 3) (ix (hp.1 c 6)) v1) (c + 4) (ix ((upI hp (c + 3) (ix (hp.1 c 6)) v1).1 c 6)) v2) (c + 5) (ix ((upI (upI hp (c + 3) (ix (hp.1 c 6)) v1) (c + 4) (ix ((upI hp (c + 3) (ix (hp.1 c 6)) v1).1 c 6)) v2).1 c 6)) v3) c 6 (((upI (upI (upI hp (c + 3) (ix (hp.1 c 6)) v1) (c + 4) (ix ((upI hp (c + 3) (ix (hp.1 c 6)) v1).1 c 6)) v2) (c + 5) (ix ((upI (upI hp (c + 3) (ix (hp.1 c 6)) v1) (c + 4) (ix ((upI hp (c + 3) (ix (hp.1 c 6)) v1).1 c 6)) v2).1 c 6)) v3).1 c 6) + 1)) = res := hk
  subst hk
  exact Fx.vret (by decide +kernel) rfl
abbrev P_Mo_longest_11 (sh : Shp) (c : Nat) (hp : HP) (v1 : Int32) (v2 : Int32) (v3 : Int32) (v5 : Int32) (res : Int32) : (Int32 × Int32) → Prop := fun s => Fx q_Mo_longest 7 sh 11 [some (.ref c), some (.int v1), some (.int v2), some (.int v3), some (.int s.1), some (.int v5), some (.int s.2)] [] hp (some (.int res)) hp
set_option maxHeartbeats 4000000 in
set_option maxRecDepth 20000 in
theorem t_Mo_longest_l11 (sh : Shp) (c : Nat) (hS : S_Mo sh c) (hp : HP) (v1 : Int32) (v2 : Int32) (v3 : Int32) (v5 : Int32) (res : Int32) : ∀ (s : (Int32 × Int32)) (t : Int32), f_Mo_longest_l11 c hp v1 v2 v3 v5 s = some t → (fun v => v = res) t → P_Mo_longest_11 sh c hp v1 v2 v3 v5 res s := by
  refine loop_ind (P_Mo_longest_11 sh c hp v1 v2 v3 v5 res) (fun v => v = res) ?_
  intro s t hf hk
  obtain ⟨v4, v6⟩ := s
  replace hf : f_Mo_longest_b11 c hp v1 v2 v3 v5 v4 v6 = some t := hf
  show Fx q_Mo_longest 7 sh 11 [some (.ref c), some (.int v1), some (.int v2), some (.int v3), some (.int v4), some (.int v5), some (.int v6)] [] hp (some (.int res)) hp
  unfold f_Mo_longest_b11 at hf
  replace hf := gd hf
  obtain ⟨g1, hf⟩ := hf
  refine Fx.run [(.iload 6, 2, 6, 0, .null), (.aload_n 0, 1, 0, 0, .null), (.getfield 9, 3, 9, 0, .ref 1), (.iconst 2, 1, 0, 0, .int 2), (.iload 5, 2, 5, 0, .null), (.iadd, 1, 0, 0, .null), (.iaload, 1, 4100, 0, .null)] 22 (by decide +kernel) ?_
  show isK sh c 9 ∧ (isA sh (c + 1) 10 4100 ∧ inb (2 + v5) 4100) ∧ Fx q_Mo_longest 7 sh 22 [some (.ref c), some (.int v1), some (.int v2), some (.int v3), some (.int v4), some (.int v5), some (.int v6)] [.int (hp.1 (c + 1) (ix (2 + v5))), .int v6] hp (some (.int res)) hp
  refine ⟨hS.1, ⟨hS.2.1, g1⟩, ?_⟩
  refine Fx.icmp_ge (76) 98 25 (by decide +kernel) (fun b2 => ?_) (fun b2 => ?_)
  · replace hf := ifp b2 hf
    replace hf := mpd hf
    obtain ⟨t, hf, rfl⟩ := hf
    refine Fx.run [(.iload 4, 2, 4, 0, .null)] 100 (by decide +kernel) ?_
    show Fx q_Mo_longest 7 sh 100 [some (.ref c), some (.int v1), some (.int v2), some (.int v3), some (.int v4), some (.int v5), some (.int v6)] [.int v4] hp (some (.int res)) hp
    obtain rfl := Option.some.inj hf
    have hk : v4 = res := hk
    subst hk
    exact Fx.iret (by decide +kernel) rfl
  · replace hf := ifn b2 hf
    refine Fx.run [(.aload_n 0, 1, 0, 0, .null), (.iload_n 1, 1, 1, 0, .null), (.iload_n 2, 1, 2, 0, .null), (.iload 6, 2, 6, 0, .null)] 30 (by decide +kernel) ?_
    show Fx q_Mo_longest 7 sh 30 [some (.ref c), some (.int v1), some (.int v2), some (.int v3), some (.int v4), some (.int v5), some (.int v6)] [.int v6, .int v2, .int v1, .ref c] hp (some (.int res)) hp
    replace hf := bnd hf
    obtain ⟨r3, hr3, hf⟩ := hf
    refine Fx.callV (rr := (some (.int r3))) (hp1 := hp) [.int v1, .int v2, .int v6] [] lk_9_149 (by decide +kernel) (t_Mo_isPartner sh c (hS) hp v1 v2 v6 r3 hr3) ⟨Nat.le_of_ble_eq_true rfl, Nat.le_of_ble_eq_true rfl⟩ (hS).1 (by decide) rfl (Nat.le_of_ble_eq_true rfl) ?_
    show Fx q_Mo_longest 7 sh 33 [some (.ref c), some (.int v1), some (.int v2), some (.int v3), some (.int v4), some (.int v5), some (.int v6)] [.int r3] hp (some (.int res)) hp
    refine Fx.if_eq (59) 92 36 (by decide +kernel) (fun b4 => ?_) (fun b4 => ?_)
    · replace hf := ifp b4 hf
      refine Fx.run [(.iinc 6 1, 3, 6, 0, .int 1)] 95 (by decide +kernel) ?_
      show Fx q_Mo_longest 7 sh 95 [some (.ref c), some (.int v1), some (.int v2), some (.int v3), some (.int v4), some (.int v5), some (.int (v6 + 1))] [] hp (some (.int res)) hp
      refine Fx.goto (-84) 11 (by decide +kernel) ?_
      obtain rfl := Option.some.inj hf
      have hk : Fx q_Mo_longest 7 sh 11 [some (.ref c), some (.int v1), some (.int v2), some (.int v3), some (.int v4), some (.int v5), some (.int (v6 + 1))] [] hp (some (.int res)) hp := hk
      exact Fx.le hk (And.intro rfl (And.intro rfl (And.intro rfl (And.intro rfl (And.intro rfl (And.intro rfl (And.intro rfl trivial)))))))
    · replace hf := ifn b4 hf
      refine Fx.run [(.aload_n 0, 1, 0, 0, .null), (.iload 5, 2, 5, 0, .null), (.iload 6, 2, 6, 0, .null)] 41 (by decide +kernel) ?_
      show Fx q_Mo_longest 7 sh 41 [some (.ref c), some (.int v1), some (.int v2), some (.int v3), some (.int v4), some (.int v5), some (.int v6)] [.int v6, .int v5, .ref c] hp (some (.int res)) hp
      replace hf := bnd hf
      obtain ⟨r5, hr5, hf⟩ := hf
      refine Fx.callV (rr := (some (.int r5))) (hp1 := hp) [.int v5, .int v6] [] lk_9_56 (by decide +kernel) (t_Mo_startOf sh c (hS) hp v5 v6 r5 hr5) ⟨Nat.le_of_ble_eq_true rfl, Nat.le_of_ble_eq_true rfl⟩ (hS).1 (by decide) rfl (Nat.le_of_ble_eq_true rfl) ?_
      show Fx q_Mo_longest 7 sh 44 [some (.ref c), some (.int v1), some (.int v2), some (.int v3), some (.int v4), some (.int v5), some (.int v6)] [.int r5] hp (some (.int res)) hp
      refine Fx.run [(.iload_n 3, 1, 3, 0, .null)] 45 (by decide +kernel) ?_
      show Fx q_Mo_longest 7 sh 45 [some (.ref c), some (.int v1), some (.int v2), some (.int v3), some (.int v4), some (.int v5), some (.int v6)] [.int v3, .int r5] hp (some (.int res)) hp
      refine Fx.icmp_gt (47) 92 48 (by decide +kernel) (fun b6 => ?_) (fun b6 => ?_)
      · replace hf := ifp b6 hf
        refine Fx.run [(.iinc 6 1, 3, 6, 0, .int 1)] 95 (by decide +kernel) ?_
        show Fx q_Mo_longest 7 sh 95 [some (.ref c), some (.int v1), some (.int v2), some (.int v3), some (.int v4), some (.int v5), some (.int (v6 + 1))] [] hp (some (.int res)) hp
        refine Fx.goto (-84) 11 (by decide +kernel) ?_
        obtain rfl := Option.some.inj hf
        have hk : Fx q_Mo_longest 7 sh 11 [some (.ref c), some (.int v1), some (.int v2), some (.int v3), some (.int v4), some (.int v5), some (.int (v6 + 1))] [] hp (some (.int res)) hp := hk
        exact Fx.le hk (And.intro rfl (And.intro rfl (And.intro rfl (And.intro rfl (And.intro rfl (And.intro rfl (And.intro rfl trivial)))))))
      · replace hf := ifn b6 hf
        refine Fx.run [(.aload_n 0, 1, 0, 0, .null), (.iload 5, 2, 5, 0, .null), (.iload 6, 2, 6, 0, .null)] 53 (by decide +kernel) ?_
        show Fx q_Mo_longest 7 sh 53 [some (.ref c), some (.int v1), some (.int v2), some (.int v3), some (.int v4), some (.int v5), some (.int v6)] [.int v6, .int v5, .ref c] hp (some (.int res)) hp
        replace hf := bnd hf
        obtain ⟨r7, hr7, hf⟩ := hf
        refine Fx.callV (rr := (some (.int r7))) (hp1 := hp) [.int v5, .int v6] [] lk_9_59 (by decide +kernel) (t_Mo_endOf sh c (hS) hp v5 v6 r7 hr7) ⟨Nat.le_of_ble_eq_true rfl, Nat.le_of_ble_eq_true rfl⟩ (hS).1 (by decide) rfl (Nat.le_of_ble_eq_true rfl) ?_
        show Fx q_Mo_longest 7 sh 56 [some (.ref c), some (.int v1), some (.int v2), some (.int v3), some (.int v4), some (.int v5), some (.int v6)] [.int r7] hp (some (.int res)) hp
        refine Fx.run [(.iload_n 3, 1, 3, 0, .null)] 57 (by decide +kernel) ?_
        show Fx q_Mo_longest 7 sh 57 [some (.ref c), some (.int v1), some (.int v2), some (.int v3), some (.int v4), some (.int v5), some (.int v6)] [.int v3, .int r7] hp (some (.int res)) hp
        refine Fx.icmp_gt (6) 63 60 (by decide +kernel) (fun b8 => ?_) (fun b8 => ?_)
        · replace hf := ifp b8 hf
          refine Fx.run [(.iload 4, 2, 4, 0, .null), (.iconst (-1), 1, 0, 0, .int (-1))] 66 (by decide +kernel) ?_
          show Fx q_Mo_longest 7 sh 66 [some (.ref c), some (.int v1), some (.int v2), some (.int v3), some (.int v4), some (.int v5), some (.int v6)] [.int (-1), .int v4] hp (some (.int res)) hp
          refine Fx.icmp_eq (22) 88 69 (by decide +kernel) (fun b9 => ?_) (fun b9 => ?_)
          · replace hf := ifp b9 hf
            refine Fx.run [(.iload 6, 2, 6, 0, .null), (.istore 4, 2, 4, 0, .null), (.iinc 6 1, 3, 6, 0, .int 1)] 95 (by decide +kernel) ?_
            show Fx q_Mo_longest 7 sh 95 [some (.ref c), some (.int v1), some (.int v2), some (.int v3), some (.int v6), some (.int v5), some (.int (v6 + 1))] [] hp (some (.int res)) hp
            refine Fx.goto (-84) 11 (by decide +kernel) ?_
            obtain rfl := Option.some.inj hf
            have hk : Fx q_Mo_longest 7 sh 11 [some (.ref c), some (.int v1), some (.int v2), some (.int v3), some (.int v6), some (.int v5), some (.int (v6 + 1))] [] hp (some (.int res)) hp := hk
            exact Fx.le hk (And.intro rfl (And.intro rfl (And.intro rfl (And.intro rfl (And.intro rfl (And.intro rfl (And.intro rfl trivial)))))))
          · replace hf := ifn b9 hf
            refine Fx.run [(.aload_n 0, 1, 0, 0, .null), (.iload 5, 2, 5, 0, .null), (.iload 6, 2, 6, 0, .null)] 74 (by decide +kernel) ?_
            show Fx q_Mo_longest 7 sh 74 [some (.ref c), some (.int v1), some (.int v2), some (.int v3), some (.int v4), some (.int v5), some (.int v6)] [.int v6, .int v5, .ref c] hp (some (.int res)) hp
            replace hf := bnd hf
            obtain ⟨r10, hr10, hf⟩ := hf
            refine Fx.callV (rr := (some (.int r10))) (hp1 := hp) [.int v5, .int v6] [] lk_9_59 (by decide +kernel) (t_Mo_endOf sh c (hS) hp v5 v6 r10 hr10) ⟨Nat.le_of_ble_eq_true rfl, Nat.le_of_ble_eq_true rfl⟩ (hS).1 (by decide) rfl (Nat.le_of_ble_eq_true rfl) ?_
            show Fx q_Mo_longest 7 sh 77 [some (.ref c), some (.int v1), some (.int v2), some (.int v3), some (.int v4), some (.int v5), some (.int v6)] [.int r10] hp (some (.int res)) hp
            refine Fx.run [(.aload_n 0, 1, 0, 0, .null), (.iload 5, 2, 5, 0, .null), (.iload 4, 2, 4, 0, .null)] 82 (by decide +kernel) ?_
            show Fx q_Mo_longest 7 sh 82 [some (.ref c), some (.int v1), some (.int v2), some (.int v3), some (.int v4), some (.int v5), some (.int v6)] [.int v4, .int v5, .ref c, .int r10] hp (some (.int res)) hp
            replace hf := bnd hf
            obtain ⟨r11, hr11, hf⟩ := hf
            refine Fx.callV (rr := (some (.int r11))) (hp1 := hp) [.int v5, .int v4] [.int r10] lk_9_59 (by decide +kernel) (t_Mo_endOf sh c (hS) hp v5 v4 r11 hr11) ⟨Nat.le_of_ble_eq_true rfl, Nat.le_of_ble_eq_true rfl⟩ (hS).1 (by decide) rfl (Nat.le_of_ble_eq_true rfl) ?_
            show Fx q_Mo_longest 7 sh 85 [some (.ref c), some (.int v1), some (.int v2), some (.int v3), some (.int v4), some (.int v5), some (.int v6)] [.int r11, .int r10] hp (some (.int res)) hp
            refine Fx.icmp_le (7) 92 88 (by decide +kernel) (fun b12 => ?_) (fun b12 => ?_)
            · replace hf := ifp b12 hf
              refine Fx.run [(.iinc 6 1, 3, 6, 0, .int 1)] 95 (by decide +kernel) ?_
              show Fx q_Mo_longest 7 sh 95 [some (.ref c), some (.int v1), some (.int v2), some (.int v3), some (.int v4), some (.int v5), some (.int (v6 + 1))] [] hp (some (.int res)) hp
              refine Fx.goto (-84) 11 (by decide +kernel) ?_
              obtain rfl := Option.some.inj hf
              have hk : Fx q_Mo_longest 7 sh 11 [some (.ref c), some (.int v1), some (.int v2), some (.int v3), some (.int v4), some (.int v5), some (.int (v6 + 1))] [] hp (some (.int res)) hp := hk
              exact Fx.le hk (And.intro rfl (And.intro rfl (And.intro rfl (And.intro rfl (And.intro rfl (And.intro rfl (And.intro rfl trivial)))))))
            · replace hf := ifn b12 hf
              refine Fx.run [(.iload 6, 2, 6, 0, .null), (.istore 4, 2, 4, 0, .null), (.iinc 6 1, 3, 6, 0, .int 1)] 95 (by decide +kernel) ?_
              show Fx q_Mo_longest 7 sh 95 [some (.ref c), some (.int v1), some (.int v2), some (.int v3), some (.int v6), some (.int v5), some (.int (v6 + 1))] [] hp (some (.int res)) hp
              refine Fx.goto (-84) 11 (by decide +kernel) ?_
              obtain rfl := Option.some.inj hf
              have hk : Fx q_Mo_longest 7 sh 11 [some (.ref c), some (.int v1), some (.int v2), some (.int v3), some (.int v6), some (.int v5), some (.int (v6 + 1))] [] hp (some (.int res)) hp := hk
              exact Fx.le hk (And.intro rfl (And.intro rfl (And.intro rfl (And.intro rfl (And.intro rfl (And.intro rfl (And.intro rfl trivial)))))))
        · replace hf := ifn b8 hf
          refine Fx.goto (32) 92 (by decide +kernel) ?_
          refine Fx.run [(.iinc 6 1, 3, 6, 0, .int 1)] 95 (by decide +kernel) ?_
          show Fx q_Mo_longest 7 sh 95 [some (.ref c), some (.int v1), some (.int v2), some (.int v3), some (.int v4), some (.int v5), some (.int (v6 + 1))] [] hp (some (.int res)) hp
          refine Fx.goto (-84) 11 (by decide +kernel) ?_
          obtain rfl := Option.some.inj hf
          have hk : Fx q_Mo_longest 7 sh 11 [some (.ref c), some (.int v1), some (.int v2), some (.int v3), some (.int v4), some (.int v5), some (.int (v6 + 1))] [] hp (some (.int res)) hp := hk
          exact Fx.le hk (And.intro rfl (And.intro rfl (And.intro rfl (And.intro rfl (And.intro rfl (And.intro rfl (And.intro rfl trivial)))))))
set_option maxHeartbeats 4000000 in
set_option maxRecDepth 20000 in
theorem t_Mo_longest (sh : Shp) (c : Nat) (hS : S_Mo sh c) (hp : HP) (v1 : Int32) (v2 : Int32) (v3 : Int32) (res : Int32) (hf : f_Mo_longest c hp v1 v2 v3 = some res) : Ex 7 q_Mo_longest sh [.ref c, .int v1, .int v2, .int v3] hp (some (.int res)) hp := by
  refine Ex.of [some (.ref c), some (.int v1), some (.int v2), some (.int v3), none, none, none] rfl (Nat.le_of_ble_eq_true rfl) (by decide +kernel) rfl ?_
  obtain ⟨t, hk⟩ : ∃ t, t = res := ⟨res, rfl⟩
  rw [← hk] at hf
  unfold f_Mo_longest at hf
  refine Fx.run [(.iconst (-1), 1, 0, 0, .int (-1)), (.istore 4, 2, 4, 0, .null), (.iconst 1, 1, 0, 0, .int 1), (.iload_n 1, 1, 1, 0, .null), (.isub, 1, 0, 0, .null), (.istore 5, 2, 5, 0, .null), (.iconst 0, 1, 0, 0, .int 0), (.istore 6, 2, 6, 0, .null)] 11 (by decide +kernel) ?_
  show Fx q_Mo_longest 7 sh 11 [some (.ref c), some (.int v1), some (.int v2), some (.int v3), some (.int (-1)), some (.int (1 - v1)), some (.int 0)] [] hp (some (.int res)) hp
  have hl := t_Mo_longest_l11 sh c hS hp v1 v2 v3 (1 - v1) res ((-1), 0) _ hf hk
  have hl : Fx q_Mo_longest 7 sh 11 [some (.ref c), some (.int v1), some (.int v2), some (.int v3), some (.int (-1)), some (.int (1 - v1)), some (.int 0)] [] hp (some (.int res)) hp := hl
  exact Fx.le hl (And.intro rfl (And.intro rfl (And.intro rfl (And.intro rfl (And.intro rfl (And.intro rfl (And.intro rfl trivial)))))))
abbrev P_Mo_nextStart_16 (sh : Shp) (c : Nat) (hp : HP) (v1 : Int32) (v2 : Int32) (v3 : Int32) (v5 : Int32) (res : Int32) : (Int32 × Int32) → Prop := fun s => Fx q_Mo_nextStart 7 sh 16 [some (.ref c), some (.int v1), some (.int v2), some (.int v3), some (.int s.1), some (.int v5), some (.int s.2)] [] hp (some (.int res)) hp
set_option maxHeartbeats 4000000 in
set_option maxRecDepth 20000 in
theorem t_Mo_nextStart_l16 (sh : Shp) (c : Nat) (hS : S_Mo sh c) (hp : HP) (v1 : Int32) (v2 : Int32) (v3 : Int32) (v5 : Int32) (res : Int32) : ∀ (s : (Int32 × Int32)) (t : Int32), f_Mo_nextStart_l16 c hp v1 v2 v3 v5 s = some t → (fun v => v = res) t → P_Mo_nextStart_16 sh c hp v1 v2 v3 v5 res s := by
  refine loop_ind (P_Mo_nextStart_16 sh c hp v1 v2 v3 v5 res) (fun v => v = res) ?_
  intro s t hf hk
  obtain ⟨v4, v6⟩ := s
  replace hf : f_Mo_nextStart_b16 c hp v1 v2 v3 v5 v4 v6 = some t := hf
  show Fx q_Mo_nextStart 7 sh 16 [some (.ref c), some (.int v1), some (.int v2), some (.int v3), some (.int v4), some (.int v5), some (.int v6)] [] hp (some (.int res)) hp
  unfold f_Mo_nextStart_b16 at hf
  replace hf := gd hf
  obtain ⟨g2, hf⟩ := hf
  refine Fx.run [(.iload 6, 2, 6, 0, .null), (.aload_n 0, 1, 0, 0, .null), (.getfield 9, 3, 9, 0, .ref 1), (.iconst 2, 1, 0, 0, .int 2), (.iload 5, 2, 5, 0, .null), (.iadd, 1, 0, 0, .null), (.iaload, 1, 4100, 0, .null)] 27 (by decide +kernel) ?_
  show isK sh c 9 ∧ (isA sh (c + 1) 10 4100 ∧ inb (2 + v5) 4100) ∧ Fx q_Mo_nextStart 7 sh 27 [some (.ref c), some (.int v1), some (.int v2), some (.int v3), some (.int v4), some (.int v5), some (.int v6)] [.int (hp.1 (c + 1) (ix (2 + v5))), .int v6] hp (some (.int res)) hp
  refine ⟨hS.1, ⟨hS.2.1, g2⟩, ?_⟩
  refine Fx.icmp_ge (47) 74 30 (by decide +kernel) (fun b3 => ?_) (fun b3 => ?_)
  · replace hf := ifp b3 hf
    replace hf := mpd hf
    obtain ⟨t, hf, rfl⟩ := hf
    refine Fx.run [(.iload 4, 2, 4, 0, .null)] 76 (by decide +kernel) ?_
    show Fx q_Mo_nextStart 7 sh 76 [some (.ref c), some (.int v1), some (.int v2), some (.int v3), some (.int v4), some (.int v5), some (.int v6)] [.int v4] hp (some (.int res)) hp
    obtain rfl := Option.some.inj hf
    have hk : v4 = res := hk
    subst hk
    exact Fx.iret (by decide +kernel) rfl
  · replace hf := ifn b3 hf
    refine Fx.run [(.aload_n 0, 1, 0, 0, .null), (.iload_n 1, 1, 1, 0, .null), (.iload_n 2, 1, 2, 0, .null), (.iload 6, 2, 6, 0, .null)] 35 (by decide +kernel) ?_
    show Fx q_Mo_nextStart 7 sh 35 [some (.ref c), some (.int v1), some (.int v2), some (.int v3), some (.int v4), some (.int v5), some (.int v6)] [.int v6, .int v2, .int v1, .ref c] hp (some (.int res)) hp
    replace hf := bnd hf
    obtain ⟨r4, hr4, hf⟩ := hf
    refine Fx.callV (rr := (some (.int r4))) (hp1 := hp) [.int v1, .int v2, .int v6] [] lk_9_149 (by decide +kernel) (t_Mo_isPartner sh c (hS) hp v1 v2 v6 r4 hr4) ⟨Nat.le_of_ble_eq_true rfl, Nat.le_of_ble_eq_true rfl⟩ (hS).1 (by decide) rfl (Nat.le_of_ble_eq_true rfl) ?_
    show Fx q_Mo_nextStart 7 sh 38 [some (.ref c), some (.int v1), some (.int v2), some (.int v3), some (.int v4), some (.int v5), some (.int v6)] [.int r4] hp (some (.int res)) hp
    refine Fx.if_eq (30) 68 41 (by decide +kernel) (fun b5 => ?_) (fun b5 => ?_)
    · replace hf := ifp b5 hf
      refine Fx.run [(.iinc 6 1, 3, 6, 0, .int 1)] 71 (by decide +kernel) ?_
      show Fx q_Mo_nextStart 7 sh 71 [some (.ref c), some (.int v1), some (.int v2), some (.int v3), some (.int v4), some (.int v5), some (.int (v6 + 1))] [] hp (some (.int res)) hp
      refine Fx.goto (-55) 16 (by decide +kernel) ?_
      obtain rfl := Option.some.inj hf
      have hk : Fx q_Mo_nextStart 7 sh 16 [some (.ref c), some (.int v1), some (.int v2), some (.int v3), some (.int v4), some (.int v5), some (.int (v6 + 1))] [] hp (some (.int res)) hp := hk
      exact Fx.le hk (And.intro rfl (And.intro rfl (And.intro rfl (And.intro rfl (And.intro rfl (And.intro rfl (And.intro rfl trivial)))))))
    · replace hf := ifn b5 hf
      refine Fx.run [(.aload_n 0, 1, 0, 0, .null), (.iload 5, 2, 5, 0, .null), (.iload 6, 2, 6, 0, .null)] 46 (by decide +kernel) ?_
      show Fx q_Mo_nextStart 7 sh 46 [some (.ref c), some (.int v1), some (.int v2), some (.int v3), some (.int v4), some (.int v5), some (.int v6)] [.int v6, .int v5, .ref c] hp (some (.int res)) hp
      replace hf := bnd hf
      obtain ⟨r6, hr6, hf⟩ := hf
      refine Fx.callV (rr := (some (.int r6))) (hp1 := hp) [.int v5, .int v6] [] lk_9_56 (by decide +kernel) (t_Mo_startOf sh c (hS) hp v5 v6 r6 hr6) ⟨Nat.le_of_ble_eq_true rfl, Nat.le_of_ble_eq_true rfl⟩ (hS).1 (by decide) rfl (Nat.le_of_ble_eq_true rfl) ?_
      show Fx q_Mo_nextStart 7 sh 49 [some (.ref c), some (.int v1), some (.int v2), some (.int v3), some (.int v4), some (.int v5), some (.int v6)] [.int r6] hp (some (.int res)) hp
      refine Fx.run [(.iload_n 3, 1, 3, 0, .null)] 50 (by decide +kernel) ?_
      show Fx q_Mo_nextStart 7 sh 50 [some (.ref c), some (.int v1), some (.int v2), some (.int v3), some (.int v4), some (.int v5), some (.int v6)] [.int v3, .int r6] hp (some (.int res)) hp
      refine Fx.icmp_le (18) 68 53 (by decide +kernel) (fun b7 => ?_) (fun b7 => ?_)
      · replace hf := ifp b7 hf
        refine Fx.run [(.iinc 6 1, 3, 6, 0, .int 1)] 71 (by decide +kernel) ?_
        show Fx q_Mo_nextStart 7 sh 71 [some (.ref c), some (.int v1), some (.int v2), some (.int v3), some (.int v4), some (.int v5), some (.int (v6 + 1))] [] hp (some (.int res)) hp
        refine Fx.goto (-55) 16 (by decide +kernel) ?_
        obtain rfl := Option.some.inj hf
        have hk : Fx q_Mo_nextStart 7 sh 16 [some (.ref c), some (.int v1), some (.int v2), some (.int v3), some (.int v4), some (.int v5), some (.int (v6 + 1))] [] hp (some (.int res)) hp := hk
        exact Fx.le hk (And.intro rfl (And.intro rfl (And.intro rfl (And.intro rfl (And.intro rfl (And.intro rfl (And.intro rfl trivial)))))))
      · replace hf := ifn b7 hf
        refine Fx.run [(.iload 4, 2, 4, 0, .null), (.aload_n 0, 1, 0, 0, .null), (.iload 5, 2, 5, 0, .null), (.iload 6, 2, 6, 0, .null)] 60 (by decide +kernel) ?_
        show Fx q_Mo_nextStart 7 sh 60 [some (.ref c), some (.int v1), some (.int v2), some (.int v3), some (.int v4), some (.int v5), some (.int v6)] [.int v6, .int v5, .ref c, .int v4] hp (some (.int res)) hp
        replace hf := bnd hf
        obtain ⟨r8, hr8, hf⟩ := hf
        refine Fx.callV (rr := (some (.int r8))) (hp1 := hp) [.int v5, .int v6] [.int v4] lk_9_56 (by decide +kernel) (t_Mo_startOf sh c (hS) hp v5 v6 r8 hr8) ⟨Nat.le_of_ble_eq_true rfl, Nat.le_of_ble_eq_true rfl⟩ (hS).1 (by decide) rfl (Nat.le_of_ble_eq_true rfl) ?_
        show Fx q_Mo_nextStart 7 sh 63 [some (.ref c), some (.int v1), some (.int v2), some (.int v3), some (.int v4), some (.int v5), some (.int v6)] [.int r8, .int v4] hp (some (.int res)) hp
        replace hf := bnd hf
        obtain ⟨r9, hr9, hf⟩ := hf
        refine Fx.callS (rr := (some (.int r9))) (hp1 := hp) [.int v4, .int r8] [] lk_9_173 (by decide +kernel) (t_Mo_less sh hp v4 r8 r9 hr9) ⟨Nat.le_of_ble_eq_true rfl, Nat.le_of_ble_eq_true rfl⟩ rfl (Nat.le_of_ble_eq_true rfl) ?_
        show Fx q_Mo_nextStart 7 sh 66 [some (.ref c), some (.int v1), some (.int v2), some (.int v3), some (.int v4), some (.int v5), some (.int v6)] [.int r9] hp (some (.int res)) hp
        refine Fx.run [(.istore 4, 2, 4, 0, .null), (.iinc 6 1, 3, 6, 0, .int 1)] 71 (by decide +kernel) ?_
        show Fx q_Mo_nextStart 7 sh 71 [some (.ref c), some (.int v1), some (.int v2), some (.int v3), some (.int r9), some (.int v5), some (.int (v6 + 1))] [] hp (some (.int res)) hp
        refine Fx.goto (-55) 16 (by decide +kernel) ?_
        obtain rfl := Option.some.inj hf
        have hk : Fx q_Mo_nextStart 7 sh 16 [some (.ref c), some (.int v1), some (.int v2), some (.int v3), some (.int r9), some (.int v5), some (.int (v6 + 1))] [] hp (some (.int res)) hp := hk
        exact Fx.le hk (And.intro rfl (And.intro rfl (And.intro rfl (And.intro rfl (And.intro rfl (And.intro rfl (And.intro rfl trivial)))))))
set_option maxHeartbeats 4000000 in
set_option maxRecDepth 20000 in
theorem t_Mo_nextStart (sh : Shp) (c : Nat) (hS : S_Mo sh c) (hp : HP) (v1 : Int32) (v2 : Int32) (v3 : Int32) (res : Int32) (hf : f_Mo_nextStart c hp v1 v2 v3 = some res) : Ex 7 q_Mo_nextStart sh [.ref c, .int v1, .int v2, .int v3] hp (some (.int res)) hp := by
  refine Ex.of [some (.ref c), some (.int v1), some (.int v2), some (.int v3), none, none, none] rfl (Nat.le_of_ble_eq_true rfl) (by decide +kernel) rfl ?_
  obtain ⟨t, hk⟩ : ∃ t, t = res := ⟨res, rfl⟩
  rw [← hk] at hf
  unfold f_Mo_nextStart at hf
  refine Fx.run [(.aload_n 0, 1, 0, 0, .null), (.iload_n 1, 1, 1, 0, .null), (.iload_n 2, 1, 2, 0, .null)] 3 (by decide +kernel) ?_
  show Fx q_Mo_nextStart 7 sh 3 [some (.ref c), some (.int v1), some (.int v2), some (.int v3), none, none, none] [.int v2, .int v1, .ref c] hp (some (.int res)) hp
  replace hf := bnd hf
  obtain ⟨r1, hr1, hf⟩ := hf
  refine Fx.callV (rr := (some (.int r1))) (hp1 := hp) [.int v1, .int v2] [] lk_9_59 (by decide +kernel) (t_Mo_endOf sh c (hS) hp v1 v2 r1 hr1) ⟨Nat.le_of_ble_eq_true rfl, Nat.le_of_ble_eq_true rfl⟩ (hS).1 (by decide) rfl (Nat.le_of_ble_eq_true rfl) ?_
  show Fx q_Mo_nextStart 7 sh 6 [some (.ref c), some (.int v1), some (.int v2), some (.int v3), none, none, none] [.int r1] hp (some (.int res)) hp
  refine Fx.run [(.istore 4, 2, 4, 0, .null), (.iconst 1, 1, 0, 0, .int 1), (.iload_n 1, 1, 1, 0, .null), (.isub, 1, 0, 0, .null), (.istore 5, 2, 5, 0, .null), (.iconst 0, 1, 0, 0, .int 0), (.istore 6, 2, 6, 0, .null)] 16 (by decide +kernel) ?_
  show Fx q_Mo_nextStart 7 sh 16 [some (.ref c), some (.int v1), some (.int v2), some (.int v3), some (.int r1), some (.int (1 - v1)), some (.int 0)] [] hp (some (.int res)) hp
  have hl := t_Mo_nextStart_l16 sh c hS hp v1 v2 v3 (1 - v1) res (r1, 0) _ hf hk
  have hl : Fx q_Mo_nextStart 7 sh 16 [some (.ref c), some (.int v1), some (.int v2), some (.int v3), some (.int r1), some (.int (1 - v1)), some (.int 0)] [] hp (some (.int res)) hp := hl
  exact Fx.le hl (And.intro rfl (And.intro rfl (And.intro rfl (And.intro rfl (And.intro rfl (And.intro rfl (And.intro rfl trivial)))))))
abbrev P_Mo_covers_20 (sh : Shp) (c : Nat) (v1 : Int32) (v2 : Int32) (v4 : Int32) (res : HP) : (HP × Int32) → Prop := fun s => Fx q_Mo_covers 8 sh 20 [some (.ref c), some (.int v1), some (.int v2), some (.int s.2), some (.int v4), none, none] [] s.1 none res
set_option maxHeartbeats 4000000 in
set_option maxRecDepth 20000 in
theorem t_Mo_covers_j65 (sh : Shp) (c : Nat) (hS : S_Mo sh c) (hp : HP) (v1 : Int32) (v2 : Int32) (v3 : Int32) (v4 : Int32) (v5 : Int32) (s0 : Int32) (res : HP) (t : ((HP × Int32) ⊕ HP)) (hf : f_Mo_covers_j65 c hp v1 v2 v3 v4 v5 s0 = some t) (hk : (Kel (P_Mo_covers_20 sh c v1 v2 v4 res) (fun v => v = res)) t) : Fx q_Mo_covers 8 sh 65 [some (.ref c), some (.int v1), some (.int v2), some (.int v3), some (.int v4), some (.int v5), none] [.int s0] hp none res := by
  unfold f_Mo_covers_j65 at hf
  refine Fx.run [(.istore 6, 2, 6, 0, .null), (.aload_n 0, 1, 0, 0, .null), (.iload_n 3, 1, 3, 0, .null), (.iload 6, 2, 6, 0, .null), (.iload 5, 2, 5, 0, .null)] 73 (by decide +kernel) ?_
  show Fx q_Mo_covers 8 sh 73 [some (.ref c), some (.int v1), some (.int v2), some (.int v3), some (.int v4), some (.int v5), some (.int s0)] [.int v5, .int s0, .int v3, .ref c] hp none res
  replace hf := bnd hf
  obtain ⟨h9, hr8, hf⟩ := hf
  refine Fx.callV (rr := none) (hp1 := h9) [.int v3, .int s0, .int v5] [] lk_9_191 (by decide +kernel) (t_Mo_adds sh c (hS) hp v3 s0 v5 h9 hr8) ⟨Nat.le_of_ble_eq_true rfl, Nat.le_of_ble_eq_true rfl⟩ (hS).1 (by decide) rfl (Nat.le_of_ble_eq_true rfl) ?_
  show Fx q_Mo_covers 8 sh 76 [some (.ref c), some (.int v1), some (.int v2), some (.int v3), some (.int v4), some (.int v5), some (.int s0)] [] h9 none res
  refine Fx.run [(.iload 6, 2, 6, 0, .null), (.istore_n 3, 1, 3, 0, .null)] 79 (by decide +kernel) ?_
  show Fx q_Mo_covers 8 sh 79 [some (.ref c), some (.int v1), some (.int v2), some (.int s0), some (.int v4), some (.int v5), some (.int s0)] [] h9 none res
  refine Fx.goto (-59) 20 (by decide +kernel) ?_
  obtain rfl := Option.some.inj hf
  have hk : Fx q_Mo_covers 8 sh 20 [some (.ref c), some (.int v1), some (.int v2), some (.int s0), some (.int v4), none, none] [] h9 none res := hk
  exact Fx.le hk (And.intro rfl (And.intro rfl (And.intro rfl (And.intro rfl (And.intro rfl trivial)))))
set_option maxHeartbeats 4000000 in
set_option maxRecDepth 20000 in
theorem t_Mo_covers_l20 (sh : Shp) (c : Nat) (hS : S_Mo sh c) (hp : HP) (v1 : Int32) (v2 : Int32) (v4 : Int32) (res : HP) : ∀ (s : (HP × Int32)) (t : HP), f_Mo_covers_l20 c hp v1 v2 v4 s = some t → (fun v => v = res) t → P_Mo_covers_20 sh c v1 v2 v4 res s := by
  refine loop_ind (P_Mo_covers_20 sh c v1 v2 v4 res) (fun v => v = res) ?_
  intro s t hf hk
  obtain ⟨hp, v3⟩ := s
  replace hf : f_Mo_covers_b20 c hp v1 v2 v4 v3 = some t := hf
  show Fx q_Mo_covers 8 sh 20 [some (.ref c), some (.int v1), some (.int v2), some (.int v3), some (.int v4), none, none] [] hp none res
  unfold f_Mo_covers_b20 at hf
  refine Fx.run [(.iload_n 3, 1, 3, 0, .null), (.iload 4, 2, 4, 0, .null)] 23 (by decide +kernel) ?_
  show Fx q_Mo_covers 8 sh 23 [some (.ref c), some (.int v1), some (.int v2), some (.int v3), some (.int v4), none, none] [.int v4, .int v3] hp none res
  refine Fx.icmp_ge (59) 82 26 (by decide +kernel) (fun b3 => ?_) (fun b3 => ?_)
  · replace hf := ifp b3 hf
    replace hf := mpd hf
    obtain ⟨t, hf, rfl⟩ := hf
    obtain rfl := Option.some.inj hf
    have hk : hp = res := hk
    subst hk
    exact Fx.vret (by decide +kernel) rfl
  · replace hf := ifn b3 hf
    refine Fx.run [(.aload_n 0, 1, 0, 0, .null), (.iload_n 1, 1, 1, 0, .null), (.iload_n 2, 1, 2, 0, .null), (.iload_n 3, 1, 3, 0, .null)] 30 (by decide +kernel) ?_
    show Fx q_Mo_covers 8 sh 30 [some (.ref c), some (.int v1), some (.int v2), some (.int v3), some (.int v4), none, none] [.int v3, .int v2, .int v1, .ref c] hp none res
    replace hf := bnd hf
    obtain ⟨r4, hr4, hf⟩ := hf
    refine Fx.callV (rr := (some (.int r4))) (hp1 := hp) [.int v1, .int v2, .int v3] [] lk_9_185 (by decide +kernel) (t_Mo_longest sh c (hS) hp v1 v2 v3 r4 hr4) ⟨Nat.le_of_ble_eq_true rfl, Nat.le_of_ble_eq_true rfl⟩ (hS).1 (by decide) rfl (Nat.le_of_ble_eq_true rfl) ?_
    show Fx q_Mo_covers 8 sh 33 [some (.ref c), some (.int v1), some (.int v2), some (.int v3), some (.int v4), none, none] [.int r4] hp none res
    refine Fx.run [(.istore 5, 2, 5, 0, .null), (.iload 5, 2, 5, 0, .null), (.iconst (-1), 1, 0, 0, .int (-1))] 38 (by decide +kernel) ?_
    show Fx q_Mo_covers 8 sh 38 [some (.ref c), some (.int v1), some (.int v2), some (.int v3), some (.int v4), some (.int r4), none] [.int (-1), .int r4] hp none res
    refine Fx.icmp_ne (13) 51 41 (by decide +kernel) (fun b5 => ?_) (fun b5 => ?_)
    · replace hf := ifn b5 hf
      refine Fx.run [(.iload 4, 2, 4, 0, .null), (.aload_n 0, 1, 0, 0, .null), (.iconst 1, 1, 0, 0, .int 1), (.iload_n 1, 1, 1, 0, .null), (.isub, 1, 0, 0, .null), (.iload 5, 2, 5, 0, .null)] 59 (by decide +kernel) ?_
      show Fx q_Mo_covers 8 sh 59 [some (.ref c), some (.int v1), some (.int v2), some (.int v3), some (.int v4), some (.int r4), none] [.int r4, .int (1 - v1), .ref c, .int v4] hp none res
      replace hf := bnd hf
      obtain ⟨r6, hr6, hf⟩ := hf
      refine Fx.callV (rr := (some (.int r6))) (hp1 := hp) [.int (1 - v1), .int r4] [.int v4] lk_9_59 (by decide +kernel) (t_Mo_endOf sh c (hS) hp (1 - v1) r4 r6 hr6) ⟨Nat.le_of_ble_eq_true rfl, Nat.le_of_ble_eq_true rfl⟩ (hS).1 (by decide) rfl (Nat.le_of_ble_eq_true rfl) ?_
      show Fx q_Mo_covers 8 sh 62 [some (.ref c), some (.int v1), some (.int v2), some (.int v3), some (.int v4), some (.int r4), none] [.int r6, .int v4] hp none res
      replace hf := bnd hf
      obtain ⟨r7, hr7, hf⟩ := hf
      refine Fx.callS (rr := (some (.int r7))) (hp1 := hp) [.int v4, .int r6] [] lk_9_173 (by decide +kernel) (t_Mo_less sh hp v4 r6 r7 hr7) ⟨Nat.le_of_ble_eq_true rfl, Nat.le_of_ble_eq_true rfl⟩ rfl (Nat.le_of_ble_eq_true rfl) ?_
      show Fx q_Mo_covers 8 sh 65 [some (.ref c), some (.int v1), some (.int v2), some (.int v3), some (.int v4), some (.int r4), none] [.int r7] hp none res
      have hl := t_Mo_covers_j65 sh c hS hp v1 v2 v3 v4 r4 r7 res _ hf hk
      exact Fx.le hl (And.intro rfl (And.intro rfl (And.intro rfl (And.intro rfl (And.intro rfl (And.intro rfl trivial))))))
    · replace hf := ifp b5 hf
      refine Fx.run [(.aload_n 0, 1, 0, 0, .null), (.iload_n 1, 1, 1, 0, .null), (.iload_n 2, 1, 2, 0, .null), (.iload_n 3, 1, 3, 0, .null)] 45 (by decide +kernel) ?_
      show Fx q_Mo_covers 8 sh 45 [some (.ref c), some (.int v1), some (.int v2), some (.int v3), some (.int v4), some (.int r4), none] [.int v3, .int v2, .int v1, .ref c] hp none res
      replace hf := bnd hf
      obtain ⟨r10, hr10, hf⟩ := hf
      refine Fx.callV (rr := (some (.int r10))) (hp1 := hp) [.int v1, .int v2, .int v3] [] lk_9_188 (by decide +kernel) (t_Mo_nextStart sh c (hS) hp v1 v2 v3 r10 hr10) ⟨Nat.le_of_ble_eq_true rfl, Nat.le_of_ble_eq_true rfl⟩ (hS).1 (by decide) rfl (Nat.le_of_ble_eq_true rfl) ?_
      show Fx q_Mo_covers 8 sh 48 [some (.ref c), some (.int v1), some (.int v2), some (.int v3), some (.int v4), some (.int r4), none] [.int r10] hp none res
      refine Fx.goto (17) 65 (by decide +kernel) ?_
      have hl := t_Mo_covers_j65 sh c hS hp v1 v2 v3 v4 r4 r10 res _ hf hk
      exact Fx.le hl (And.intro rfl (And.intro rfl (And.intro rfl (And.intro rfl (And.intro rfl (And.intro rfl trivial))))))
set_option maxHeartbeats 4000000 in
set_option maxRecDepth 20000 in
theorem t_Mo_covers (sh : Shp) (c : Nat) (hS : S_Mo sh c) (hp : HP) (v1 : Int32) (v2 : Int32) (res : HP) (hf : f_Mo_covers c hp v1 v2 = some res) : Ex 8 q_Mo_covers sh [.ref c, .int v1, .int v2] hp none res := by
  refine Ex.of [some (.ref c), some (.int v1), some (.int v2), none, none, none, none] rfl (Nat.le_of_ble_eq_true rfl) (by decide +kernel) rfl ?_
  obtain ⟨t, hk⟩ : ∃ t, t = res := ⟨res, rfl⟩
  rw [← hk] at hf
  unfold f_Mo_covers at hf
  refine Fx.run [(.aload_n 0, 1, 0, 0, .null), (.iconst 0, 1, 0, 0, .int 0), (.putfield 181, 3, 9, 6, .null), (.aload_n 0, 1, 0, 0, .null), (.iload_n 1, 1, 1, 0, .null), (.iload_n 2, 1, 2, 0, .null)] 8 (by decide +kernel) ?_
  show isK sh c 9 ∧ Fx q_Mo_covers 8 sh 8 [some (.ref c), some (.int v1), some (.int v2), none, none, none, none] [.int v2, .int v1, .ref c] (upI hp c 6 0) none res
  refine ⟨hS.1, ?_⟩
  replace hf := bnd hf
  obtain ⟨r1, hr1, hf⟩ := hf
  refine Fx.callV (rr := (some (.int r1))) (hp1 := (upI hp c 6 0)) [.int v1, .int v2] [] lk_9_56 (by decide +kernel) (t_Mo_startOf sh c (hS) (upI hp c 6 0) v1 v2 r1 hr1) ⟨Nat.le_of_ble_eq_true rfl, Nat.le_of_ble_eq_true rfl⟩ (hS).1 (by decide) rfl (Nat.le_of_ble_eq_true rfl) ?_
  show Fx q_Mo_covers 8 sh 11 [some (.ref c), some (.int v1), some (.int v2), none, none, none, none] [.int r1] (upI hp c 6 0) none res
  refine Fx.run [(.istore_n 3, 1, 3, 0, .null), (.aload_n 0, 1, 0, 0, .null), (.iload_n 1, 1, 1, 0, .null), (.iload_n 2, 1, 2, 0, .null)] 15 (by decide +kernel) ?_
  show Fx q_Mo_covers 8 sh 15 [some (.ref c), some (.int v1), some (.int v2), some (.int r1), none, none, none] [.int v2, .int v1, .ref c] (upI hp c 6 0) none res
  replace hf := bnd hf
  obtain ⟨r2, hr2, hf⟩ := hf
  refine Fx.callV (rr := (some (.int r2))) (hp1 := (upI hp c 6 0)) [.int v1, .int v2] [] lk_9_59 (by decide +kernel) (t_Mo_endOf sh c (hS) (upI hp c 6 0) v1 v2 r2 hr2) ⟨Nat.le_of_ble_eq_true rfl, Nat.le_of_ble_eq_true rfl⟩ (hS).1 (by decide) rfl (Nat.le_of_ble_eq_true rfl) ?_
  show Fx q_Mo_covers 8 sh 18 [some (.ref c), some (.int v1), some (.int v2), some (.int r1), none, none, none] [.int r2] (upI hp c 6 0) none res
  refine Fx.run [(.istore 4, 2, 4, 0, .null)] 20 (by decide +kernel) ?_
  show Fx q_Mo_covers 8 sh 20 [some (.ref c), some (.int v1), some (.int v2), some (.int r1), some (.int r2), none, none] [] (upI hp c 6 0) none res
  have hl := t_Mo_covers_l20 sh c hS (upI hp c 6 0) v1 v2 r2 res ((upI hp c 6 0), r1) _ hf hk
  have hl : Fx q_Mo_covers 8 sh 20 [some (.ref c), some (.int v1), some (.int v2), some (.int r1), some (.int r2), none, none] [] (upI hp c 6 0) none res := hl
  exact Fx.le hl (And.intro rfl (And.intro rfl (And.intro rfl (And.intro rfl (And.intro rfl trivial)))))
abbrev P_Mo_partners_5 (sh : Shp) (c : Nat) (hp : HP) (v1 : Int32) (v2 : Int32) (res : Int32) : (Int32 × Int32) → Prop := fun s => Fx q_Mo_partners 7 sh 5 [some (.ref c), some (.int v1), some (.int v2), some (.int s.1), some (.int s.2)] [] hp (some (.int res)) hp
set_option maxHeartbeats 4000000 in
set_option maxRecDepth 20000 in
theorem t_Mo_partners_l5 (sh : Shp) (c : Nat) (hS : S_Mo sh c) (hp : HP) (v1 : Int32) (v2 : Int32) (res : Int32) : ∀ (s : (Int32 × Int32)) (t : Int32), f_Mo_partners_l5 c hp v1 v2 s = some t → (fun v => v = res) t → P_Mo_partners_5 sh c hp v1 v2 res s := by
  refine loop_ind (P_Mo_partners_5 sh c hp v1 v2 res) (fun v => v = res) ?_
  intro s t hf hk
  obtain ⟨v3, v4⟩ := s
  replace hf : f_Mo_partners_b5 c hp v1 v2 v3 v4 = some t := hf
  show Fx q_Mo_partners 7 sh 5 [some (.ref c), some (.int v1), some (.int v2), some (.int v3), some (.int v4)] [] hp (some (.int res)) hp
  unfold f_Mo_partners_b5 at hf
  replace hf := gd hf
  obtain ⟨g1, hf⟩ := hf
  refine Fx.run [(.iload 4, 2, 4, 0, .null), (.aload_n 0, 1, 0, 0, .null), (.getfield 9, 3, 9, 0, .ref 1), (.iconst 3, 1, 0, 0, .int 3), (.iload_n 1, 1, 1, 0, .null), (.isub, 1, 0, 0, .null), (.iaload, 1, 4100, 0, .null)] 15 (by decide +kernel) ?_
  show isK sh c 9 ∧ (isA sh (c + 1) 10 4100 ∧ inb (3 - v1) 4100) ∧ Fx q_Mo_partners 7 sh 15 [some (.ref c), some (.int v1), some (.int v2), some (.int v3), some (.int v4)] [.int (hp.1 (c + 1) (ix (3 - v1))), .int v4] hp (some (.int res)) hp
  refine ⟨hS.1, ⟨hS.2.1, g1⟩, ?_⟩
  refine Fx.icmp_ge (28) 43 18 (by decide +kernel) (fun b2 => ?_) (fun b2 => ?_)
  · replace hf := ifp b2 hf
    replace hf := mpd hf
    obtain ⟨t, hf, rfl⟩ := hf
    refine Fx.run [(.iload_n 3, 1, 3, 0, .null)] 44 (by decide +kernel) ?_
    show Fx q_Mo_partners 7 sh 44 [some (.ref c), some (.int v1), some (.int v2), some (.int v3), some (.int v4)] [.int v3] hp (some (.int res)) hp
    obtain rfl := Option.some.inj hf
    have hk : v3 = res := hk
    subst hk
    exact Fx.iret (by decide +kernel) rfl
  · replace hf := ifn b2 hf
    refine Fx.run [(.iload_n 3, 1, 3, 0, .null), (.aload_n 0, 1, 0, 0, .null), (.iload_n 1, 1, 1, 0, .null), (.iload_n 2, 1, 2, 0, .null), (.iload 4, 2, 4, 0, .null)] 24 (by decide +kernel) ?_
    show Fx q_Mo_partners 7 sh 24 [some (.ref c), some (.int v1), some (.int v2), some (.int v3), some (.int v4)] [.int v4, .int v2, .int v1, .ref c, .int v3] hp (some (.int res)) hp
    replace hf := bnd hf
    obtain ⟨r3, hr3, hf⟩ := hf
    refine Fx.callV (rr := (some (.int r3))) (hp1 := hp) [.int v1, .int v2, .int v4] [.int v3] lk_9_149 (by decide +kernel) (t_Mo_isPartner sh c (hS) hp v1 v2 v4 r3 hr3) ⟨Nat.le_of_ble_eq_true rfl, Nat.le_of_ble_eq_true rfl⟩ (hS).1 (by decide) rfl (Nat.le_of_ble_eq_true rfl) ?_
    show Fx q_Mo_partners 7 sh 27 [some (.ref c), some (.int v1), some (.int v2), some (.int v3), some (.int v4)] [.int r3, .int v3] hp (some (.int res)) hp
    refine Fx.if_eq (7) 34 30 (by decide +kernel) (fun b4 => ?_) (fun b4 => ?_)
    · replace hf := ifp b4 hf
      refine Fx.run [(.iconst 0, 1, 0, 0, .int 0), (.iadd, 1, 0, 0, .null), (.istore_n 3, 1, 3, 0, .null), (.iinc 4 1, 3, 4, 0, .int 1)] 40 (by decide +kernel) ?_
      show Fx q_Mo_partners 7 sh 40 [some (.ref c), some (.int v1), some (.int v2), some (.int (v3 + 0)), some (.int (v4 + 1))] [] hp (some (.int res)) hp
      refine Fx.goto (-35) 5 (by decide +kernel) ?_
      obtain rfl := Option.some.inj hf
      have hk : Fx q_Mo_partners 7 sh 5 [some (.ref c), some (.int v1), some (.int v2), some (.int (v3 + 0)), some (.int (v4 + 1))] [] hp (some (.int res)) hp := hk
      exact Fx.le hk (And.intro rfl (And.intro rfl (And.intro rfl (And.intro rfl (And.intro rfl trivial)))))
    · replace hf := ifn b4 hf
      refine Fx.run [(.iconst 1, 1, 0, 0, .int 1)] 31 (by decide +kernel) ?_
      show Fx q_Mo_partners 7 sh 31 [some (.ref c), some (.int v1), some (.int v2), some (.int v3), some (.int v4)] [.int 1, .int v3] hp (some (.int res)) hp
      refine Fx.goto (4) 35 (by decide +kernel) ?_
      refine Fx.run [(.iadd, 1, 0, 0, .null), (.istore_n 3, 1, 3, 0, .null), (.iinc 4 1, 3, 4, 0, .int 1)] 40 (by decide +kernel) ?_
      show Fx q_Mo_partners 7 sh 40 [some (.ref c), some (.int v1), some (.int v2), some (.int (v3 + 1)), some (.int (v4 + 1))] [] hp (some (.int res)) hp
      refine Fx.goto (-35) 5 (by decide +kernel) ?_
      obtain rfl := Option.some.inj hf
      have hk : Fx q_Mo_partners 7 sh 5 [some (.ref c), some (.int v1), some (.int v2), some (.int (v3 + 1)), some (.int (v4 + 1))] [] hp (some (.int res)) hp := hk
      exact Fx.le hk (And.intro rfl (And.intro rfl (And.intro rfl (And.intro rfl (And.intro rfl trivial)))))
set_option maxHeartbeats 4000000 in
set_option maxRecDepth 20000 in
theorem t_Mo_partners (sh : Shp) (c : Nat) (hS : S_Mo sh c) (hp : HP) (v1 : Int32) (v2 : Int32) (res : Int32) (hf : f_Mo_partners c hp v1 v2 = some res) : Ex 7 q_Mo_partners sh [.ref c, .int v1, .int v2] hp (some (.int res)) hp := by
  refine Ex.of [some (.ref c), some (.int v1), some (.int v2), none, none] rfl (Nat.le_of_ble_eq_true rfl) (by decide +kernel) rfl ?_
  obtain ⟨t, hk⟩ : ∃ t, t = res := ⟨res, rfl⟩
  rw [← hk] at hf
  unfold f_Mo_partners at hf
  refine Fx.run [(.iconst 0, 1, 0, 0, .int 0), (.istore_n 3, 1, 3, 0, .null), (.iconst 0, 1, 0, 0, .int 0), (.istore 4, 2, 4, 0, .null)] 5 (by decide +kernel) ?_
  show Fx q_Mo_partners 7 sh 5 [some (.ref c), some (.int v1), some (.int v2), some (.int 0), some (.int 0)] [] hp (some (.int res)) hp
  have hl := t_Mo_partners_l5 sh c hS hp v1 v2 res (0, 0) _ hf hk
  have hl : Fx q_Mo_partners 7 sh 5 [some (.ref c), some (.int v1), some (.int v2), some (.int 0), some (.int 0)] [] hp (some (.int res)) hp := hl
  exact Fx.le hl (And.intro rfl (And.intro rfl (And.intro rfl (And.intro rfl (And.intro rfl trivial)))))
abbrev P_Mo_partnersAt_11 (sh : Shp) (c : Nat) (hp : HP) (v1 : Int32) (v2 : Int32) (v3 : Int32) (v5 : Int32) (res : Int32) : (Int32 × Int32) → Prop := fun s => Fx q_Mo_partnersAt 7 sh 11 [some (.ref c), some (.int v1), some (.int v2), some (.int v3), some (.int s.1), some (.int v5), some (.int s.2)] [] hp (some (.int res)) hp
set_option maxHeartbeats 4000000 in
set_option maxRecDepth 20000 in
theorem t_Mo_partnersAt_l11 (sh : Shp) (c : Nat) (hS : S_Mo sh c) (hp : HP) (v1 : Int32) (v2 : Int32) (v3 : Int32) (v5 : Int32) (res : Int32) : ∀ (s : (Int32 × Int32)) (t : Int32), f_Mo_partnersAt_l11 c hp v1 v2 v3 v5 s = some t → (fun v => v = res) t → P_Mo_partnersAt_11 sh c hp v1 v2 v3 v5 res s := by
  refine loop_ind (P_Mo_partnersAt_11 sh c hp v1 v2 v3 v5 res) (fun v => v = res) ?_
  intro s t hf hk
  obtain ⟨v4, v6⟩ := s
  replace hf : f_Mo_partnersAt_b11 c hp v1 v2 v3 v5 v4 v6 = some t := hf
  show Fx q_Mo_partnersAt 7 sh 11 [some (.ref c), some (.int v1), some (.int v2), some (.int v3), some (.int v4), some (.int v5), some (.int v6)] [] hp (some (.int res)) hp
  unfold f_Mo_partnersAt_b11 at hf
  replace hf := gd hf
  obtain ⟨g1, hf⟩ := hf
  refine Fx.run [(.iload 6, 2, 6, 0, .null), (.aload_n 0, 1, 0, 0, .null), (.getfield 9, 3, 9, 0, .ref 1), (.iconst 2, 1, 0, 0, .int 2), (.iload 5, 2, 5, 0, .null), (.iadd, 1, 0, 0, .null), (.iaload, 1, 4100, 0, .null)] 22 (by decide +kernel) ?_
  show isK sh c 9 ∧ (isA sh (c + 1) 10 4100 ∧ inb (2 + v5) 4100) ∧ Fx q_Mo_partnersAt 7 sh 22 [some (.ref c), some (.int v1), some (.int v2), some (.int v3), some (.int v4), some (.int v5), some (.int v6)] [.int (hp.1 (c + 1) (ix (2 + v5))), .int v6] hp (some (.int res)) hp
  refine ⟨hS.1, ⟨hS.2.1, g1⟩, ?_⟩
  refine Fx.icmp_ge (54) 76 25 (by decide +kernel) (fun b2 => ?_) (fun b2 => ?_)
  · replace hf := ifp b2 hf
    replace hf := mpd hf
    obtain ⟨t, hf, rfl⟩ := hf
    refine Fx.run [(.iload 4, 2, 4, 0, .null)] 78 (by decide +kernel) ?_
    show Fx q_Mo_partnersAt 7 sh 78 [some (.ref c), some (.int v1), some (.int v2), some (.int v3), some (.int v4), some (.int v5), some (.int v6)] [.int v4] hp (some (.int res)) hp
    obtain rfl := Option.some.inj hf
    have hk : v4 = res := hk
    subst hk
    exact Fx.iret (by decide +kernel) rfl
  · replace hf := ifn b2 hf
    refine Fx.run [(.iload 4, 2, 4, 0, .null), (.aload_n 0, 1, 0, 0, .null), (.iload_n 1, 1, 1, 0, .null), (.iload_n 2, 1, 2, 0, .null), (.iload 6, 2, 6, 0, .null)] 32 (by decide +kernel) ?_
    show Fx q_Mo_partnersAt 7 sh 32 [some (.ref c), some (.int v1), some (.int v2), some (.int v3), some (.int v4), some (.int v5), some (.int v6)] [.int v6, .int v2, .int v1, .ref c, .int v4] hp (some (.int res)) hp
    replace hf := bnd hf
    obtain ⟨r3, hr3, hf⟩ := hf
    refine Fx.callV (rr := (some (.int r3))) (hp1 := hp) [.int v1, .int v2, .int v6] [.int v4] lk_9_149 (by decide +kernel) (t_Mo_isPartner sh c (hS) hp v1 v2 v6 r3 hr3) ⟨Nat.le_of_ble_eq_true rfl, Nat.le_of_ble_eq_true rfl⟩ (hS).1 (by decide) rfl (Nat.le_of_ble_eq_true rfl) ?_
    show Fx q_Mo_partnersAt 7 sh 35 [some (.ref c), some (.int v1), some (.int v2), some (.int v3), some (.int v4), some (.int v5), some (.int v6)] [.int r3, .int v4] hp (some (.int res)) hp
    refine Fx.if_eq (31) 66 38 (by decide +kernel) (fun b4 => ?_) (fun b4 => ?_)
    · replace hf := ifp b4 hf
      refine Fx.run [(.iconst 0, 1, 0, 0, .int 0), (.iadd, 1, 0, 0, .null), (.istore 4, 2, 4, 0, .null), (.iinc 6 1, 3, 6, 0, .int 1)] 73 (by decide +kernel) ?_
      show Fx q_Mo_partnersAt 7 sh 73 [some (.ref c), some (.int v1), some (.int v2), some (.int v3), some (.int (v4 + 0)), some (.int v5), some (.int (v6 + 1))] [] hp (some (.int res)) hp
      refine Fx.goto (-62) 11 (by decide +kernel) ?_
      obtain rfl := Option.some.inj hf
      have hk : Fx q_Mo_partnersAt 7 sh 11 [some (.ref c), some (.int v1), some (.int v2), some (.int v3), some (.int (v4 + 0)), some (.int v5), some (.int (v6 + 1))] [] hp (some (.int res)) hp := hk
      exact Fx.le hk (And.intro rfl (And.intro rfl (And.intro rfl (And.intro rfl (And.intro rfl (And.intro rfl (And.intro rfl trivial)))))))
    · replace hf := ifn b4 hf
      refine Fx.run [(.aload_n 0, 1, 0, 0, .null), (.iload 5, 2, 5, 0, .null), (.iload 6, 2, 6, 0, .null)] 43 (by decide +kernel) ?_
      show Fx q_Mo_partnersAt 7 sh 43 [some (.ref c), some (.int v1), some (.int v2), some (.int v3), some (.int v4), some (.int v5), some (.int v6)] [.int v6, .int v5, .ref c, .int v4] hp (some (.int res)) hp
      replace hf := bnd hf
      obtain ⟨r5, hr5, hf⟩ := hf
      refine Fx.callV (rr := (some (.int r5))) (hp1 := hp) [.int v5, .int v6] [.int v4] lk_9_56 (by decide +kernel) (t_Mo_startOf sh c (hS) hp v5 v6 r5 hr5) ⟨Nat.le_of_ble_eq_true rfl, Nat.le_of_ble_eq_true rfl⟩ (hS).1 (by decide) rfl (Nat.le_of_ble_eq_true rfl) ?_
      show Fx q_Mo_partnersAt 7 sh 46 [some (.ref c), some (.int v1), some (.int v2), some (.int v3), some (.int v4), some (.int v5), some (.int v6)] [.int r5, .int v4] hp (some (.int res)) hp
      refine Fx.run [(.iload_n 3, 1, 3, 0, .null)] 47 (by decide +kernel) ?_
      show Fx q_Mo_partnersAt 7 sh 47 [some (.ref c), some (.int v1), some (.int v2), some (.int v3), some (.int v4), some (.int v5), some (.int v6)] [.int v3, .int r5, .int v4] hp (some (.int res)) hp
      refine Fx.icmp_gt (19) 66 50 (by decide +kernel) (fun b6 => ?_) (fun b6 => ?_)
      · replace hf := ifp b6 hf
        refine Fx.run [(.iconst 0, 1, 0, 0, .int 0), (.iadd, 1, 0, 0, .null), (.istore 4, 2, 4, 0, .null), (.iinc 6 1, 3, 6, 0, .int 1)] 73 (by decide +kernel) ?_
        show Fx q_Mo_partnersAt 7 sh 73 [some (.ref c), some (.int v1), some (.int v2), some (.int v3), some (.int (v4 + 0)), some (.int v5), some (.int (v6 + 1))] [] hp (some (.int res)) hp
        refine Fx.goto (-62) 11 (by decide +kernel) ?_
        obtain rfl := Option.some.inj hf
        have hk : Fx q_Mo_partnersAt 7 sh 11 [some (.ref c), some (.int v1), some (.int v2), some (.int v3), some (.int (v4 + 0)), some (.int v5), some (.int (v6 + 1))] [] hp (some (.int res)) hp := hk
        exact Fx.le hk (And.intro rfl (And.intro rfl (And.intro rfl (And.intro rfl (And.intro rfl (And.intro rfl (And.intro rfl trivial)))))))
      · replace hf := ifn b6 hf
        refine Fx.run [(.iload_n 3, 1, 3, 0, .null), (.aload_n 0, 1, 0, 0, .null), (.iload 5, 2, 5, 0, .null), (.iload 6, 2, 6, 0, .null)] 56 (by decide +kernel) ?_
        show Fx q_Mo_partnersAt 7 sh 56 [some (.ref c), some (.int v1), some (.int v2), some (.int v3), some (.int v4), some (.int v5), some (.int v6)] [.int v6, .int v5, .ref c, .int v3, .int v4] hp (some (.int res)) hp
        replace hf := bnd hf
        obtain ⟨r7, hr7, hf⟩ := hf
        refine Fx.callV (rr := (some (.int r7))) (hp1 := hp) [.int v5, .int v6] [.int v3, .int v4] lk_9_59 (by decide +kernel) (t_Mo_endOf sh c (hS) hp v5 v6 r7 hr7) ⟨Nat.le_of_ble_eq_true rfl, Nat.le_of_ble_eq_true rfl⟩ (hS).1 (by decide) rfl (Nat.le_of_ble_eq_true rfl) ?_
        show Fx q_Mo_partnersAt 7 sh 59 [some (.ref c), some (.int v1), some (.int v2), some (.int v3), some (.int v4), some (.int v5), some (.int v6)] [.int r7, .int v3, .int v4] hp (some (.int res)) hp
        refine Fx.icmp_ge (7) 66 62 (by decide +kernel) (fun b8 => ?_) (fun b8 => ?_)
        · replace hf := ifp b8 hf
          refine Fx.run [(.iconst 0, 1, 0, 0, .int 0), (.iadd, 1, 0, 0, .null), (.istore 4, 2, 4, 0, .null), (.iinc 6 1, 3, 6, 0, .int 1)] 73 (by decide +kernel) ?_
          show Fx q_Mo_partnersAt 7 sh 73 [some (.ref c), some (.int v1), some (.int v2), some (.int v3), some (.int (v4 + 0)), some (.int v5), some (.int (v6 + 1))] [] hp (some (.int res)) hp
          refine Fx.goto (-62) 11 (by decide +kernel) ?_
          obtain rfl := Option.some.inj hf
          have hk : Fx q_Mo_partnersAt 7 sh 11 [some (.ref c), some (.int v1), some (.int v2), some (.int v3), some (.int (v4 + 0)), some (.int v5), some (.int (v6 + 1))] [] hp (some (.int res)) hp := hk
          exact Fx.le hk (And.intro rfl (And.intro rfl (And.intro rfl (And.intro rfl (And.intro rfl (And.intro rfl (And.intro rfl trivial)))))))
        · replace hf := ifn b8 hf
          refine Fx.run [(.iconst 1, 1, 0, 0, .int 1)] 63 (by decide +kernel) ?_
          show Fx q_Mo_partnersAt 7 sh 63 [some (.ref c), some (.int v1), some (.int v2), some (.int v3), some (.int v4), some (.int v5), some (.int v6)] [.int 1, .int v4] hp (some (.int res)) hp
          refine Fx.goto (4) 67 (by decide +kernel) ?_
          refine Fx.run [(.iadd, 1, 0, 0, .null), (.istore 4, 2, 4, 0, .null), (.iinc 6 1, 3, 6, 0, .int 1)] 73 (by decide +kernel) ?_
          show Fx q_Mo_partnersAt 7 sh 73 [some (.ref c), some (.int v1), some (.int v2), some (.int v3), some (.int (v4 + 1)), some (.int v5), some (.int (v6 + 1))] [] hp (some (.int res)) hp
          refine Fx.goto (-62) 11 (by decide +kernel) ?_
          obtain rfl := Option.some.inj hf
          have hk : Fx q_Mo_partnersAt 7 sh 11 [some (.ref c), some (.int v1), some (.int v2), some (.int v3), some (.int (v4 + 1)), some (.int v5), some (.int (v6 + 1))] [] hp (some (.int res)) hp := hk
          exact Fx.le hk (And.intro rfl (And.intro rfl (And.intro rfl (And.intro rfl (And.intro rfl (And.intro rfl (And.intro rfl trivial)))))))
set_option maxHeartbeats 4000000 in
set_option maxRecDepth 20000 in
theorem t_Mo_partnersAt (sh : Shp) (c : Nat) (hS : S_Mo sh c) (hp : HP) (v1 : Int32) (v2 : Int32) (v3 : Int32) (res : Int32) (hf : f_Mo_partnersAt c hp v1 v2 v3 = some res) : Ex 7 q_Mo_partnersAt sh [.ref c, .int v1, .int v2, .int v3] hp (some (.int res)) hp := by
  refine Ex.of [some (.ref c), some (.int v1), some (.int v2), some (.int v3), none, none, none] rfl (Nat.le_of_ble_eq_true rfl) (by decide +kernel) rfl ?_
  obtain ⟨t, hk⟩ : ∃ t, t = res := ⟨res, rfl⟩
  rw [← hk] at hf
  unfold f_Mo_partnersAt at hf
  refine Fx.run [(.iconst 0, 1, 0, 0, .int 0), (.istore 4, 2, 4, 0, .null), (.iconst 1, 1, 0, 0, .int 1), (.iload_n 1, 1, 1, 0, .null), (.isub, 1, 0, 0, .null), (.istore 5, 2, 5, 0, .null), (.iconst 0, 1, 0, 0, .int 0), (.istore 6, 2, 6, 0, .null)] 11 (by decide +kernel) ?_
  show Fx q_Mo_partnersAt 7 sh 11 [some (.ref c), some (.int v1), some (.int v2), some (.int v3), some (.int 0), some (.int (1 - v1)), some (.int 0)] [] hp (some (.int res)) hp
  have hl := t_Mo_partnersAt_l11 sh c hS hp v1 v2 v3 (1 - v1) res (0, 0) _ hf hk
  have hl : Fx q_Mo_partnersAt 7 sh 11 [some (.ref c), some (.int v1), some (.int v2), some (.int v3), some (.int 0), some (.int (1 - v1)), some (.int 0)] [] hp (some (.int res)) hp := hl
  exact Fx.le hl (And.intro rfl (And.intro rfl (And.intro rfl (And.intro rfl (And.intro rfl (And.intro rfl (And.intro rfl trivial)))))))
abbrev P_Mo_depth_5 (sh : Shp) (c : Nat) (hp : HP) (v1 : Int32) (v2 : Int32) (res : Int32) : (Int32 × Int32) → Prop := fun s => Fx q_Mo_depth 8 sh 5 [some (.ref c), some (.int v1), some (.int v2), some (.int s.1), some (.int s.2)] [] hp (some (.int res)) hp
set_option maxHeartbeats 4000000 in
set_option maxRecDepth 20000 in
theorem t_Mo_depth_l5 (sh : Shp) (c : Nat) (hS : S_Mo sh c) (hp : HP) (v1 : Int32) (v2 : Int32) (res : Int32) : ∀ (s : (Int32 × Int32)) (t : Int32), f_Mo_depth_l5 c hp v1 v2 s = some t → (fun v => v = res) t → P_Mo_depth_5 sh c hp v1 v2 res s := by
  refine loop_ind (P_Mo_depth_5 sh c hp v1 v2 res) (fun v => v = res) ?_
  intro s t hf hk
  obtain ⟨v3, v4⟩ := s
  replace hf : f_Mo_depth_b5 c hp v1 v2 v3 v4 = some t := hf
  show Fx q_Mo_depth 8 sh 5 [some (.ref c), some (.int v1), some (.int v2), some (.int v3), some (.int v4)] [] hp (some (.int res)) hp
  unfold f_Mo_depth_b5 at hf
  replace hf := gd hf
  obtain ⟨g1, hf⟩ := hf
  refine Fx.run [(.iload 4, 2, 4, 0, .null), (.aload_n 0, 1, 0, 0, .null), (.getfield 9, 3, 9, 0, .ref 1), (.iconst 3, 1, 0, 0, .int 3), (.iload_n 1, 1, 1, 0, .null), (.isub, 1, 0, 0, .null), (.iaload, 1, 4100, 0, .null)] 15 (by decide +kernel) ?_
  show isK sh c 9 ∧ (isA sh (c + 1) 10 4100 ∧ inb (3 - v1) 4100) ∧ Fx q_Mo_depth 8 sh 15 [some (.ref c), some (.int v1), some (.int v2), some (.int v3), some (.int v4)] [.int (hp.1 (c + 1) (ix (3 - v1))), .int v4] hp (some (.int res)) hp
  refine ⟨hS.1, ⟨hS.2.1, g1⟩, ?_⟩
  refine Fx.icmp_ge (40) 55 18 (by decide +kernel) (fun b2 => ?_) (fun b2 => ?_)
  · replace hf := ifp b2 hf
    replace hf := mpd hf
    obtain ⟨t, hf, rfl⟩ := hf
    refine Fx.run [(.iload_n 3, 1, 3, 0, .null)] 56 (by decide +kernel) ?_
    show Fx q_Mo_depth 8 sh 56 [some (.ref c), some (.int v1), some (.int v2), some (.int v3), some (.int v4)] [.int v3] hp (some (.int res)) hp
    obtain rfl := Option.some.inj hf
    have hk : v3 = res := hk
    subst hk
    exact Fx.iret (by decide +kernel) rfl
  · replace hf := ifn b2 hf
    refine Fx.run [(.aload_n 0, 1, 0, 0, .null), (.iload_n 1, 1, 1, 0, .null), (.iload_n 2, 1, 2, 0, .null), (.iload 4, 2, 4, 0, .null)] 23 (by decide +kernel) ?_
    show Fx q_Mo_depth 8 sh 23 [some (.ref c), some (.int v1), some (.int v2), some (.int v3), some (.int v4)] [.int v4, .int v2, .int v1, .ref c] hp (some (.int res)) hp
    replace hf := bnd hf
    obtain ⟨r3, hr3, hf⟩ := hf
    refine Fx.callV (rr := (some (.int r3))) (hp1 := hp) [.int v1, .int v2, .int v4] [] lk_9_149 (by decide +kernel) (t_Mo_isPartner sh c (hS) hp v1 v2 v4 r3 hr3) ⟨Nat.le_of_ble_eq_true rfl, Nat.le_of_ble_eq_true rfl⟩ (hS).1 (by decide) rfl (Nat.le_of_ble_eq_true rfl) ?_
    show Fx q_Mo_depth 8 sh 26 [some (.ref c), some (.int v1), some (.int v2), some (.int v3), some (.int v4)] [.int r3] hp (some (.int res)) hp
    refine Fx.if_eq (23) 49 29 (by decide +kernel) (fun b4 => ?_) (fun b4 => ?_)
    · replace hf := ifp b4 hf
      refine Fx.run [(.iinc 4 1, 3, 4, 0, .int 1)] 52 (by decide +kernel) ?_
      show Fx q_Mo_depth 8 sh 52 [some (.ref c), some (.int v1), some (.int v2), some (.int v3), some (.int (v4 + 1))] [] hp (some (.int res)) hp
      refine Fx.goto (-47) 5 (by decide +kernel) ?_
      obtain rfl := Option.some.inj hf
      have hk : Fx q_Mo_depth 8 sh 5 [some (.ref c), some (.int v1), some (.int v2), some (.int v3), some (.int (v4 + 1))] [] hp (some (.int res)) hp := hk
      exact Fx.le hk (And.intro rfl (And.intro rfl (And.intro rfl (And.intro rfl (And.intro rfl trivial)))))
    · replace hf := ifn b4 hf
      refine Fx.run [(.iload_n 3, 1, 3, 0, .null), (.aload_n 0, 1, 0, 0, .null), (.iload_n 1, 1, 1, 0, .null), (.iload_n 2, 1, 2, 0, .null), (.aload_n 0, 1, 0, 0, .null), (.iconst 1, 1, 0, 0, .int 1), (.iload_n 1, 1, 1, 0, .null), (.isub, 1, 0, 0, .null), (.iload 4, 2, 4, 0, .null)] 39 (by decide +kernel) ?_
      show Fx q_Mo_depth 8 sh 39 [some (.ref c), some (.int v1), some (.int v2), some (.int v3), some (.int v4)] [.int v4, .int (1 - v1), .ref c, .int v2, .int v1, .ref c, .int v3] hp (some (.int res)) hp
      replace hf := bnd hf
      obtain ⟨r5, hr5, hf⟩ := hf
      refine Fx.callV (rr := (some (.int r5))) (hp1 := hp) [.int (1 - v1), .int v4] [.int v2, .int v1, .ref c, .int v3] lk_9_56 (by decide +kernel) (t_Mo_startOf sh c (hS) hp (1 - v1) v4 r5 hr5) ⟨Nat.le_of_ble_eq_true rfl, Nat.le_of_ble_eq_true rfl⟩ (hS).1 (by decide) rfl (Nat.le_of_ble_eq_true rfl) ?_
      show Fx q_Mo_depth 8 sh 42 [some (.ref c), some (.int v1), some (.int v2), some (.int v3), some (.int v4)] [.int r5, .int v2, .int v1, .ref c, .int v3] hp (some (.int res)) hp
      replace hf := bnd hf
      obtain ⟨r6, hr6, hf⟩ := hf
      refine Fx.callV (rr := (some (.int r6))) (hp1 := hp) [.int v1, .int v2, .int r5] [.int v3] lk_9_195 (by decide +kernel) (t_Mo_partnersAt sh c (hS) hp v1 v2 r5 r6 hr6) ⟨Nat.le_of_ble_eq_true rfl, Nat.le_of_ble_eq_true rfl⟩ (hS).1 (by decide) rfl (Nat.le_of_ble_eq_true rfl) ?_
      show Fx q_Mo_depth 8 sh 45 [some (.ref c), some (.int v1), some (.int v2), some (.int v3), some (.int v4)] [.int r6, .int v3] hp (some (.int res)) hp
      replace hf := bnd hf
      obtain ⟨r7, hr7, hf⟩ := hf
      refine Fx.callS (rr := (some (.int r7))) (hp1 := hp) [.int v3, .int r6] [] lk_9_133 (by decide +kernel) (t_Mo_more sh hp v3 r6 r7 hr7) ⟨Nat.le_of_ble_eq_true rfl, Nat.le_of_ble_eq_true rfl⟩ rfl (Nat.le_of_ble_eq_true rfl) ?_
      show Fx q_Mo_depth 8 sh 48 [some (.ref c), some (.int v1), some (.int v2), some (.int v3), some (.int v4)] [.int r7] hp (some (.int res)) hp
      refine Fx.run [(.istore_n 3, 1, 3, 0, .null), (.iinc 4 1, 3, 4, 0, .int 1)] 52 (by decide +kernel) ?_
      show Fx q_Mo_depth 8 sh 52 [some (.ref c), some (.int v1), some (.int v2), some (.int r7), some (.int (v4 + 1))] [] hp (some (.int res)) hp
      refine Fx.goto (-47) 5 (by decide +kernel) ?_
      obtain rfl := Option.some.inj hf
      have hk : Fx q_Mo_depth 8 sh 5 [some (.ref c), some (.int v1), some (.int v2), some (.int r7), some (.int (v4 + 1))] [] hp (some (.int res)) hp := hk
      exact Fx.le hk (And.intro rfl (And.intro rfl (And.intro rfl (And.intro rfl (And.intro rfl trivial)))))
set_option maxHeartbeats 4000000 in
set_option maxRecDepth 20000 in
theorem t_Mo_depth (sh : Shp) (c : Nat) (hS : S_Mo sh c) (hp : HP) (v1 : Int32) (v2 : Int32) (res : Int32) (hf : f_Mo_depth c hp v1 v2 = some res) : Ex 8 q_Mo_depth sh [.ref c, .int v1, .int v2] hp (some (.int res)) hp := by
  refine Ex.of [some (.ref c), some (.int v1), some (.int v2), none, none] rfl (Nat.le_of_ble_eq_true rfl) (by decide +kernel) rfl ?_
  obtain ⟨t, hk⟩ : ∃ t, t = res := ⟨res, rfl⟩
  rw [← hk] at hf
  unfold f_Mo_depth at hf
  refine Fx.run [(.iconst 0, 1, 0, 0, .int 0), (.istore_n 3, 1, 3, 0, .null), (.iconst 0, 1, 0, 0, .int 0), (.istore 4, 2, 4, 0, .null)] 5 (by decide +kernel) ?_
  show Fx q_Mo_depth 8 sh 5 [some (.ref c), some (.int v1), some (.int v2), some (.int 0), some (.int 0)] [] hp (some (.int res)) hp
  have hl := t_Mo_depth_l5 sh c hS hp v1 v2 res (0, 0) _ hf hk
  have hl : Fx q_Mo_depth 8 sh 5 [some (.ref c), some (.int v1), some (.int v2), some (.int 0), some (.int 0)] [] hp (some (.int res)) hp := hl
  exact Fx.le hl (And.intro rfl (And.intro rfl (And.intro rfl (And.intro rfl (And.intro rfl trivial)))))
abbrev P_Mo_leftOver_11 (sh : Shp) (c : Nat) (hp : HP)  (res : (HP × Int32)) : (Int32 × Int32) → Prop := fun s => Fx q_Mo_leftOver 9 sh 11 [some (.ref c), none, none, some (.int s.1), some (.int s.2)] [] hp (some (.int res.2)) res.1
set_option maxHeartbeats 4000000 in
set_option maxRecDepth 20000 in
theorem t_Mo_leftOver_l11 (sh : Shp) (c : Nat) (hS : S_Mo sh c) (hp : HP)  (res : (HP × Int32)) : ∀ (s : (Int32 × Int32)) (t : (HP × Int32)), f_Mo_leftOver_l11 c hp  s = some t → (fun v => v = res) t → P_Mo_leftOver_11 sh c hp  res s := by
  refine loop_ind (P_Mo_leftOver_11 sh c hp  res) (fun v => v = res) ?_
  intro s t hf hk
  obtain ⟨v3, v4⟩ := s
  replace hf : f_Mo_leftOver_b11 c hp  v3 v4 = some t := hf
  show Fx q_Mo_leftOver 9 sh 11 [some (.ref c), none, none, some (.int v3), some (.int v4)] [] hp (some (.int res.2)) res.1
  unfold f_Mo_leftOver_b11 at hf
  refine Fx.run [(.iload 4, 2, 4, 0, .null), (.aload_n 0, 1, 0, 0, .null), (.getfield 181, 3, 9, 6, .null)] 17 (by decide +kernel) ?_
  show isK sh c 9 ∧ Fx q_Mo_leftOver 9 sh 17 [some (.ref c), none, none, some (.int v3), some (.int v4)] [.int (hp.1 c 6), .int v4] hp (some (.int res.2)) res.1
  refine ⟨hS.1, ?_⟩
  refine Fx.icmp_ge (28) 45 20 (by decide +kernel) (fun b3 => ?_) (fun b3 => ?_)
  · replace hf := ifp b3 hf
    replace hf := mpd hf
    obtain ⟨t, hf, rfl⟩ := hf
    refine Fx.run [(.iload_n 3, 1, 3, 0, .null)] 46 (by decide +kernel) ?_
    show Fx q_Mo_leftOver 9 sh 46 [some (.ref c), none, none, some (.int v3), some (.int v4)] [.int v3] hp (some (.int res.2)) res.1
    obtain rfl := Option.some.inj hf
    have hk : (hp, v3) = res := hk
    subst hk
    exact Fx.iret (by decide +kernel) rfl
  · replace hf := ifn b3 hf
    replace hf := gd hf
    obtain ⟨g4, hf⟩ := hf
    refine Fx.run [(.iload_n 3, 1, 3, 0, .null), (.aload_n 0, 1, 0, 0, .null), (.getfield 22, 3, 9, 5, .ref 5), (.iload 4, 2, 4, 0, .null), (.iaload, 1, 200, 0, .null), (.iconst (-1), 1, 0, 0, .int (-1))] 29 (by decide +kernel) ?_
    show isK sh c 9 ∧ (isA sh (c + 5) 10 200 ∧ inb v4 200) ∧ Fx q_Mo_leftOver 9 sh 29 [some (.ref c), none, none, some (.int v3), some (.int v4)] [.int (-1), .int (hp.1 (c + 5) (ix v4)), .int v3] hp (some (.int res.2)) res.1
    refine ⟨hS.1, ⟨hS.2.2.2.2.2.1, g4⟩, ?_⟩
    refine Fx.icmp_ne (7) 36 32 (by decide +kernel) (fun b5 => ?_) (fun b5 => ?_)
    · replace hf := ifn b5 hf
      refine Fx.run [(.iconst 0, 1, 0, 0, .int 0), (.iadd, 1, 0, 0, .null), (.istore_n 3, 1, 3, 0, .null), (.iinc 4 1, 3, 4, 0, .int 1)] 42 (by decide +kernel) ?_
      show Fx q_Mo_leftOver 9 sh 42 [some (.ref c), none, none, some (.int (v3 + 0)), some (.int (v4 + 1))] [] hp (some (.int res.2)) res.1
      refine Fx.goto (-31) 11 (by decide +kernel) ?_
      obtain rfl := Option.some.inj hf
      have hk : Fx q_Mo_leftOver 9 sh 11 [some (.ref c), none, none, some (.int (v3 + 0)), some (.int (v4 + 1))] [] hp (some (.int res.2)) res.1 := hk
      exact Fx.le hk (And.intro rfl (And.intro rfl (And.intro rfl trivial)))
    · replace hf := ifp b5 hf
      refine Fx.run [(.iconst 1, 1, 0, 0, .int 1)] 33 (by decide +kernel) ?_
      show Fx q_Mo_leftOver 9 sh 33 [some (.ref c), none, none, some (.int v3), some (.int v4)] [.int 1, .int v3] hp (some (.int res.2)) res.1
      refine Fx.goto (4) 37 (by decide +kernel) ?_
      refine Fx.run [(.iadd, 1, 0, 0, .null), (.istore_n 3, 1, 3, 0, .null), (.iinc 4 1, 3, 4, 0, .int 1)] 42 (by decide +kernel) ?_
      show Fx q_Mo_leftOver 9 sh 42 [some (.ref c), none, none, some (.int (v3 + 1)), some (.int (v4 + 1))] [] hp (some (.int res.2)) res.1
      refine Fx.goto (-31) 11 (by decide +kernel) ?_
      obtain rfl := Option.some.inj hf
      have hk : Fx q_Mo_leftOver 9 sh 11 [some (.ref c), none, none, some (.int (v3 + 1)), some (.int (v4 + 1))] [] hp (some (.int res.2)) res.1 := hk
      exact Fx.le hk (And.intro rfl (And.intro rfl (And.intro rfl trivial)))
set_option maxHeartbeats 4000000 in
set_option maxRecDepth 20000 in
theorem t_Mo_leftOver (sh : Shp) (c : Nat) (hS : S_Mo sh c) (hp : HP) (v1 : Int32) (v2 : Int32) (res : (HP × Int32)) (hf : f_Mo_leftOver c hp v1 v2 = some res) : Ex 9 q_Mo_leftOver sh [.ref c, .int v1, .int v2] hp (some (.int res.2)) res.1 := by
  refine Ex.of [some (.ref c), some (.int v1), some (.int v2), none, none] rfl (Nat.le_of_ble_eq_true rfl) (by decide +kernel) rfl ?_
  obtain ⟨t, hk⟩ : ∃ t, t = res := ⟨res, rfl⟩
  rw [← hk] at hf
  unfold f_Mo_leftOver at hf
  refine Fx.run [(.aload_n 0, 1, 0, 0, .null), (.iload_n 1, 1, 1, 0, .null), (.iload_n 2, 1, 2, 0, .null)] 3 (by decide +kernel) ?_
  show Fx q_Mo_leftOver 9 sh 3 [some (.ref c), some (.int v1), some (.int v2), none, none] [.int v2, .int v1, .ref c] hp (some (.int res.2)) res.1
  replace hf := bnd hf
  obtain ⟨h2, hr1, hf⟩ := hf
  refine Fx.callV (rr := none) (hp1 := h2) [.int v1, .int v2] [] lk_9_198 (by decide +kernel) (t_Mo_covers sh c (hS) hp v1 v2 h2 hr1) ⟨Nat.le_of_ble_eq_true rfl, Nat.le_of_ble_eq_true rfl⟩ (hS).1 (by decide) rfl (Nat.le_of_ble_eq_true rfl) ?_
  show Fx q_Mo_leftOver 9 sh 6 [some (.ref c), some (.int v1), some (.int v2), none, none] [] h2 (some (.int res.2)) res.1
  refine Fx.run [(.iconst 0, 1, 0, 0, .int 0), (.istore_n 3, 1, 3, 0, .null), (.iconst 0, 1, 0, 0, .int 0), (.istore 4, 2, 4, 0, .null)] 11 (by decide +kernel) ?_
  show Fx q_Mo_leftOver 9 sh 11 [some (.ref c), some (.int v1), some (.int v2), some (.int 0), some (.int 0)] [] h2 (some (.int res.2)) res.1
  have hl := t_Mo_leftOver_l11 sh c hS h2  res (0, 0) _ hf hk
  have hl : Fx q_Mo_leftOver 9 sh 11 [some (.ref c), none, none, some (.int 0), some (.int 0)] [] h2 (some (.int res.2)) res.1 := hl
  exact Fx.le hl (And.intro rfl (And.intro rfl (And.intro rfl trivial)))
abbrev P_Mo_coveredLong_11 (sh : Shp) (c : Nat) (hp : HP)  (res : (HP × Int32)) : (Int32 × Int32) → Prop := fun s => Fx q_Mo_coveredLong 9 sh 11 [some (.ref c), none, none, some (.int s.1), some (.int s.2)] [] hp (some (.int res.2)) res.1
set_option maxHeartbeats 4000000 in
set_option maxRecDepth 20000 in
theorem t_Mo_coveredLong_l11 (sh : Shp) (c : Nat) (hS : S_Mo sh c) (hp : HP)  (res : (HP × Int32)) : ∀ (s : (Int32 × Int32)) (t : (HP × Int32)), f_Mo_coveredLong_l11 c hp  s = some t → (fun v => v = res) t → P_Mo_coveredLong_11 sh c hp  res s := by
  refine loop_ind (P_Mo_coveredLong_11 sh c hp  res) (fun v => v = res) ?_
  intro s t hf hk
  obtain ⟨v3, v4⟩ := s
  replace hf : f_Mo_coveredLong_b11 c hp  v3 v4 = some t := hf
  show Fx q_Mo_coveredLong 9 sh 11 [some (.ref c), none, none, some (.int v3), some (.int v4)] [] hp (some (.int res.2)) res.1
  unfold f_Mo_coveredLong_b11 at hf
  refine Fx.run [(.iload 4, 2, 4, 0, .null), (.aload_n 0, 1, 0, 0, .null), (.getfield 181, 3, 9, 6, .null)] 17 (by decide +kernel) ?_
  show isK sh c 9 ∧ Fx q_Mo_coveredLong 9 sh 17 [some (.ref c), none, none, some (.int v3), some (.int v4)] [.int (hp.1 c 6), .int v4] hp (some (.int res.2)) res.1
  refine ⟨hS.1, ?_⟩
  refine Fx.icmp_ge (48) 65 20 (by decide +kernel) (fun b3 => ?_) (fun b3 => ?_)
  · replace hf := ifp b3 hf
    replace hf := mpd hf
    obtain ⟨t, hf, rfl⟩ := hf
    refine Fx.run [(.iload_n 3, 1, 3, 0, .null)] 66 (by decide +kernel) ?_
    show Fx q_Mo_coveredLong 9 sh 66 [some (.ref c), none, none, some (.int v3), some (.int v4)] [.int v3] hp (some (.int res.2)) res.1
    obtain rfl := Option.some.inj hf
    have hk : (hp, v3) = res := hk
    subst hk
    exact Fx.iret (by decide +kernel) rfl
  · replace hf := ifn b3 hf
    replace hf := gd hf
    obtain ⟨g4, hf⟩ := hf
    refine Fx.run [(.iload_n 3, 1, 3, 0, .null), (.aload_n 0, 1, 0, 0, .null), (.getfield 22, 3, 9, 5, .ref 5), (.iload 4, 2, 4, 0, .null), (.iaload, 1, 200, 0, .null), (.iconst (-1), 1, 0, 0, .int (-1))] 29 (by decide +kernel) ?_
    show isK sh c 9 ∧ (isA sh (c + 5) 10 200 ∧ inb v4 200) ∧ Fx q_Mo_coveredLong 9 sh 29 [some (.ref c), none, none, some (.int v3), some (.int v4)] [.int (-1), .int (hp.1 (c + 5) (ix v4)), .int v3] hp (some (.int res.2)) res.1
    refine ⟨hS.1, ⟨hS.2.2.2.2.2.1, g4⟩, ?_⟩
    refine Fx.icmp_ne (7) 36 32 (by decide +kernel) (fun b5 => ?_) (fun b5 => ?_)
    · replace hf := ifn b5 hf
      replace hf := gd hf
      obtain ⟨g6, hf⟩ := hf
      refine Fx.run [(.aload_n 0, 1, 0, 0, .null), (.getfield 19, 3, 9, 4, .ref 4), (.iload 4, 2, 4, 0, .null), (.iaload, 1, 200, 0, .null)] 43 (by decide +kernel) ?_
      show isK sh c 9 ∧ (isA sh (c + 4) 10 200 ∧ inb v4 200) ∧ Fx q_Mo_coveredLong 9 sh 43 [some (.ref c), none, none, some (.int v3), some (.int v4)] [.int (hp.1 (c + 4) (ix v4)), .int v3] hp (some (.int res.2)) res.1
      refine ⟨hS.1, ⟨hS.2.2.2.2.1, g6⟩, ?_⟩
      replace hf := bnd hf
      obtain ⟨r7, hr7, hf⟩ := hf
      refine Fx.callS (rr := (some (.int r7))) (hp1 := hp) [.int (hp.1 (c + 4) (ix v4))] [.int v3] lk_9_164 (by decide +kernel) (t_Mo_time sh hp (hp.1 (c + 4) (ix v4)) r7 hr7) ⟨Nat.le_of_ble_eq_true rfl, Nat.le_of_ble_eq_true rfl⟩ rfl (Nat.le_of_ble_eq_true rfl) ?_
      show Fx q_Mo_coveredLong 9 sh 46 [some (.ref c), none, none, some (.int v3), some (.int v4)] [.int r7, .int v3] hp (some (.int res.2)) res.1
      replace hf := gd hf
      obtain ⟨g8, hf⟩ := hf
      refine Fx.run [(.aload_n 0, 1, 0, 0, .null), (.getfield 16, 3, 9, 3, .ref 3), (.iload 4, 2, 4, 0, .null), (.iaload, 1, 200, 0, .null)] 53 (by decide +kernel) ?_
      show isK sh c 9 ∧ (isA sh (c + 3) 10 200 ∧ inb v4 200) ∧ Fx q_Mo_coveredLong 9 sh 53 [some (.ref c), none, none, some (.int v3), some (.int v4)] [.int (hp.1 (c + 3) (ix v4)), .int r7, .int v3] hp (some (.int res.2)) res.1
      refine ⟨hS.1, ⟨hS.2.2.2.1, g8⟩, ?_⟩
      replace hf := bnd hf
      obtain ⟨r9, hr9, hf⟩ := hf
      refine Fx.callS (rr := (some (.int r9))) (hp1 := hp) [.int (hp.1 (c + 3) (ix v4))] [.int r7, .int v3] lk_9_164 (by decide +kernel) (t_Mo_time sh hp (hp.1 (c + 3) (ix v4)) r9 hr9) ⟨Nat.le_of_ble_eq_true rfl, Nat.le_of_ble_eq_true rfl⟩ rfl (Nat.le_of_ble_eq_true rfl) ?_
      show Fx q_Mo_coveredLong 9 sh 56 [some (.ref c), none, none, some (.int v3), some (.int v4)] [.int r9, .int r7, .int v3] hp (some (.int res.2)) res.1
      refine Fx.run [(.isub, 1, 0, 0, .null), (.iadd, 1, 0, 0, .null), (.istore_n 3, 1, 3, 0, .null), (.iinc 4 1, 3, 4, 0, .int 1)] 62 (by decide +kernel) ?_
      show Fx q_Mo_coveredLong 9 sh 62 [some (.ref c), none, none, some (.int (v3 + (r7 - r9))), some (.int (v4 + 1))] [] hp (some (.int res.2)) res.1
      refine Fx.goto (-51) 11 (by decide +kernel) ?_
      obtain rfl := Option.some.inj hf
      have hk : Fx q_Mo_coveredLong 9 sh 11 [some (.ref c), none, none, some (.int (v3 + (r7 - r9))), some (.int (v4 + 1))] [] hp (some (.int res.2)) res.1 := hk
      exact Fx.le hk (And.intro rfl (And.intro rfl (And.intro rfl trivial)))
    · replace hf := ifp b5 hf
      refine Fx.run [(.iconst 0, 1, 0, 0, .int 0)] 33 (by decide +kernel) ?_
      show Fx q_Mo_coveredLong 9 sh 33 [some (.ref c), none, none, some (.int v3), some (.int v4)] [.int 0, .int v3] hp (some (.int res.2)) res.1
      refine Fx.goto (24) 57 (by decide +kernel) ?_
      refine Fx.run [(.iadd, 1, 0, 0, .null), (.istore_n 3, 1, 3, 0, .null), (.iinc 4 1, 3, 4, 0, .int 1)] 62 (by decide +kernel) ?_
      show Fx q_Mo_coveredLong 9 sh 62 [some (.ref c), none, none, some (.int (v3 + 0)), some (.int (v4 + 1))] [] hp (some (.int res.2)) res.1
      refine Fx.goto (-51) 11 (by decide +kernel) ?_
      obtain rfl := Option.some.inj hf
      have hk : Fx q_Mo_coveredLong 9 sh 11 [some (.ref c), none, none, some (.int (v3 + 0)), some (.int (v4 + 1))] [] hp (some (.int res.2)) res.1 := hk
      exact Fx.le hk (And.intro rfl (And.intro rfl (And.intro rfl trivial)))
set_option maxHeartbeats 4000000 in
set_option maxRecDepth 20000 in
theorem t_Mo_coveredLong (sh : Shp) (c : Nat) (hS : S_Mo sh c) (hp : HP) (v1 : Int32) (v2 : Int32) (res : (HP × Int32)) (hf : f_Mo_coveredLong c hp v1 v2 = some res) : Ex 9 q_Mo_coveredLong sh [.ref c, .int v1, .int v2] hp (some (.int res.2)) res.1 := by
  refine Ex.of [some (.ref c), some (.int v1), some (.int v2), none, none] rfl (Nat.le_of_ble_eq_true rfl) (by decide +kernel) rfl ?_
  obtain ⟨t, hk⟩ : ∃ t, t = res := ⟨res, rfl⟩
  rw [← hk] at hf
  unfold f_Mo_coveredLong at hf
  refine Fx.run [(.aload_n 0, 1, 0, 0, .null), (.iload_n 1, 1, 1, 0, .null), (.iload_n 2, 1, 2, 0, .null)] 3 (by decide +kernel) ?_
  show Fx q_Mo_coveredLong 9 sh 3 [some (.ref c), some (.int v1), some (.int v2), none, none] [.int v2, .int v1, .ref c] hp (some (.int res.2)) res.1
  replace hf := bnd hf
  obtain ⟨h2, hr1, hf⟩ := hf
  refine Fx.callV (rr := none) (hp1 := h2) [.int v1, .int v2] [] lk_9_198 (by decide +kernel) (t_Mo_covers sh c (hS) hp v1 v2 h2 hr1) ⟨Nat.le_of_ble_eq_true rfl, Nat.le_of_ble_eq_true rfl⟩ (hS).1 (by decide) rfl (Nat.le_of_ble_eq_true rfl) ?_
  show Fx q_Mo_coveredLong 9 sh 6 [some (.ref c), some (.int v1), some (.int v2), none, none] [] h2 (some (.int res.2)) res.1
  refine Fx.run [(.iconst 0, 1, 0, 0, .int 0), (.istore_n 3, 1, 3, 0, .null), (.iconst 0, 1, 0, 0, .int 0), (.istore 4, 2, 4, 0, .null)] 11 (by decide +kernel) ?_
  show Fx q_Mo_coveredLong 9 sh 11 [some (.ref c), some (.int v1), some (.int v2), some (.int 0), some (.int 0)] [] h2 (some (.int res.2)) res.1
  have hl := t_Mo_coveredLong_l11 sh c hS h2  res (0, 0) _ hf hk
  have hl : Fx q_Mo_coveredLong 9 sh 11 [some (.ref c), none, none, some (.int 0), some (.int 0)] [] h2 (some (.int res.2)) res.1 := hl
  exact Fx.le hl (And.intro rfl (And.intro rfl (And.intro rfl trivial)))
set_option maxHeartbeats 4000000 in
set_option maxRecDepth 20000 in
theorem t_Mo_row (sh : Shp) (c : Nat) (hS : S_Mo sh c) (hp : HP) (v1 : Int32) (v2 : Int32) (v3 : Int32) (res : (HP × Int32)) (hf : f_Mo_row c hp v1 v2 v3 = some res) : Ex 10 q_Mo_row sh [.ref c, .int v1, .int v2, .int v3] hp (some (.int res.2)) res.1 := by
  refine Ex.of [some (.ref c), some (.int v1), some (.int v2), some (.int v3)] rfl (Nat.le_of_ble_eq_true rfl) (by decide +kernel) rfl ?_
  obtain ⟨t, hk⟩ : ∃ t, t = res := ⟨res, rfl⟩
  rw [← hk] at hf
  unfold f_Mo_row at hf
  refine Fx.run [(.aload_n 0, 1, 0, 0, .null), (.iload_n 1, 1, 1, 0, .null), (.iload_n 2, 1, 2, 0, .null)] 3 (by decide +kernel) ?_
  show Fx q_Mo_row 10 sh 3 [some (.ref c), some (.int v1), some (.int v2), some (.int v3)] [.int v2, .int v1, .ref c] hp (some (.int res.2)) res.1
  replace hf := bnd hf
  obtain ⟨r1, hr1, hf⟩ := hf
  refine Fx.callV (rr := (some (.int r1))) (hp1 := hp) [.int v1, .int v2] [] lk_9_201 (by decide +kernel) (t_Mo_isRow sh c (hS) hp v1 v2 r1 hr1) ⟨Nat.le_of_ble_eq_true rfl, Nat.le_of_ble_eq_true rfl⟩ (hS).1 (by decide) rfl (Nat.le_of_ble_eq_true rfl) ?_
  show Fx q_Mo_row 10 sh 6 [some (.ref c), some (.int v1), some (.int v2), some (.int v3)] [.int r1] hp (some (.int res.2)) res.1
  refine Fx.if_ne (6) 12 9 (by decide +kernel) (fun b2 => ?_) (fun b2 => ?_)
  · replace hf := ifn b2 hf
    refine Fx.run [(.iload_n 3, 1, 3, 0, .null)] 13 (by decide +kernel) ?_
    show Fx q_Mo_row 10 sh 13 [some (.ref c), some (.int v1), some (.int v2), some (.int v3)] [.int v3] hp (some (.int res.2)) res.1
    by_cases b17 : v3 = 0
    · replace hf := ifp b17 hf
      refine Fx.swX 0 72 b17 (by decide +kernel) ?_
      refine Fx.run [(.aload_n 0, 1, 0, 0, .null), (.iload_n 1, 1, 1, 0, .null), (.iload_n 2, 1, 2, 0, .null), (.iload_n 3, 1, 3, 0, .null)] 76 (by decide +kernel) ?_
      show Fx q_Mo_row 10 sh 76 [some (.ref c), some (.int v1), some (.int v2), some (.int v3)] [.int v3, .int v2, .int v1, .ref c] hp (some (.int res.2)) res.1
      replace hf := bnd hf
      obtain ⟨r3, hr3, hf⟩ := hf
      refine Fx.callV (rr := (some (.int r3))) (hp1 := hp) [.int v1, .int v2, .int v3] [] lk_9_44 (by decide +kernel) (t_Mo_of sh c (hS) hp v1 v2 v3 r3 hr3) ⟨Nat.le_of_ble_eq_true rfl, Nat.le_of_ble_eq_true rfl⟩ (hS).1 (by decide) rfl (Nat.le_of_ble_eq_true rfl) ?_
      show Fx q_Mo_row 10 sh 79 [some (.ref c), some (.int v1), some (.int v2), some (.int v3)] [.int r3] hp (some (.int res.2)) res.1
      obtain rfl := Option.some.inj hf
      have hk : (hp, r3) = res := hk
      subst hk
      exact Fx.iret (by decide +kernel) rfl
    replace hf := ifn b17 hf
    by_cases b18 : v3 = 1
    · replace hf := ifp b18 hf
      refine Fx.swX 1 72 b18 (by decide +kernel) ?_
      refine Fx.run [(.aload_n 0, 1, 0, 0, .null), (.iload_n 1, 1, 1, 0, .null), (.iload_n 2, 1, 2, 0, .null), (.iload_n 3, 1, 3, 0, .null)] 76 (by decide +kernel) ?_
      show Fx q_Mo_row 10 sh 76 [some (.ref c), some (.int v1), some (.int v2), some (.int v3)] [.int v3, .int v2, .int v1, .ref c] hp (some (.int res.2)) res.1
      replace hf := bnd hf
      obtain ⟨r4, hr4, hf⟩ := hf
      refine Fx.callV (rr := (some (.int r4))) (hp1 := hp) [.int v1, .int v2, .int v3] [] lk_9_44 (by decide +kernel) (t_Mo_of sh c (hS) hp v1 v2 v3 r4 hr4) ⟨Nat.le_of_ble_eq_true rfl, Nat.le_of_ble_eq_true rfl⟩ (hS).1 (by decide) rfl (Nat.le_of_ble_eq_true rfl) ?_
      show Fx q_Mo_row 10 sh 79 [some (.ref c), some (.int v1), some (.int v2), some (.int v3)] [.int r4] hp (some (.int res.2)) res.1
      obtain rfl := Option.some.inj hf
      have hk : (hp, r4) = res := hk
      subst hk
      exact Fx.iret (by decide +kernel) rfl
    replace hf := ifn b18 hf
    by_cases b19 : v3 = 2
    · replace hf := ifp b19 hf
      refine Fx.swX 2 72 b19 (by decide +kernel) ?_
      refine Fx.run [(.aload_n 0, 1, 0, 0, .null), (.iload_n 1, 1, 1, 0, .null), (.iload_n 2, 1, 2, 0, .null), (.iload_n 3, 1, 3, 0, .null)] 76 (by decide +kernel) ?_
      show Fx q_Mo_row 10 sh 76 [some (.ref c), some (.int v1), some (.int v2), some (.int v3)] [.int v3, .int v2, .int v1, .ref c] hp (some (.int res.2)) res.1
      replace hf := bnd hf
      obtain ⟨r5, hr5, hf⟩ := hf
      refine Fx.callV (rr := (some (.int r5))) (hp1 := hp) [.int v1, .int v2, .int v3] [] lk_9_44 (by decide +kernel) (t_Mo_of sh c (hS) hp v1 v2 v3 r5 hr5) ⟨Nat.le_of_ble_eq_true rfl, Nat.le_of_ble_eq_true rfl⟩ (hS).1 (by decide) rfl (Nat.le_of_ble_eq_true rfl) ?_
      show Fx q_Mo_row 10 sh 79 [some (.ref c), some (.int v1), some (.int v2), some (.int v3)] [.int r5] hp (some (.int res.2)) res.1
      obtain rfl := Option.some.inj hf
      have hk : (hp, r5) = res := hk
      subst hk
      exact Fx.iret (by decide +kernel) rfl
    replace hf := ifn b19 hf
    by_cases b20 : v3 = 3
    · replace hf := ifp b20 hf
      refine Fx.swX 3 72 b20 (by decide +kernel) ?_
      refine Fx.run [(.aload_n 0, 1, 0, 0, .null), (.iload_n 1, 1, 1, 0, .null), (.iload_n 2, 1, 2, 0, .null), (.iload_n 3, 1, 3, 0, .null)] 76 (by decide +kernel) ?_
      show Fx q_Mo_row 10 sh 76 [some (.ref c), some (.int v1), some (.int v2), some (.int v3)] [.int v3, .int v2, .int v1, .ref c] hp (some (.int res.2)) res.1
      replace hf := bnd hf
      obtain ⟨r6, hr6, hf⟩ := hf
      refine Fx.callV (rr := (some (.int r6))) (hp1 := hp) [.int v1, .int v2, .int v3] [] lk_9_44 (by decide +kernel) (t_Mo_of sh c (hS) hp v1 v2 v3 r6 hr6) ⟨Nat.le_of_ble_eq_true rfl, Nat.le_of_ble_eq_true rfl⟩ (hS).1 (by decide) rfl (Nat.le_of_ble_eq_true rfl) ?_
      show Fx q_Mo_row 10 sh 79 [some (.ref c), some (.int v1), some (.int v2), some (.int v3)] [.int r6] hp (some (.int res.2)) res.1
      obtain rfl := Option.some.inj hf
      have hk : (hp, r6) = res := hk
      subst hk
      exact Fx.iret (by decide +kernel) rfl
    replace hf := ifn b20 hf
    by_cases b21 : v3 = 4
    · replace hf := ifp b21 hf
      refine Fx.swX 4 72 b21 (by decide +kernel) ?_
      refine Fx.run [(.aload_n 0, 1, 0, 0, .null), (.iload_n 1, 1, 1, 0, .null), (.iload_n 2, 1, 2, 0, .null), (.iload_n 3, 1, 3, 0, .null)] 76 (by decide +kernel) ?_
      show Fx q_Mo_row 10 sh 76 [some (.ref c), some (.int v1), some (.int v2), some (.int v3)] [.int v3, .int v2, .int v1, .ref c] hp (some (.int res.2)) res.1
      replace hf := bnd hf
      obtain ⟨r7, hr7, hf⟩ := hf
      refine Fx.callV (rr := (some (.int r7))) (hp1 := hp) [.int v1, .int v2, .int v3] [] lk_9_44 (by decide +kernel) (t_Mo_of sh c (hS) hp v1 v2 v3 r7 hr7) ⟨Nat.le_of_ble_eq_true rfl, Nat.le_of_ble_eq_true rfl⟩ (hS).1 (by decide) rfl (Nat.le_of_ble_eq_true rfl) ?_
      show Fx q_Mo_row 10 sh 79 [some (.ref c), some (.int v1), some (.int v2), some (.int v3)] [.int r7] hp (some (.int res.2)) res.1
      obtain rfl := Option.some.inj hf
      have hk : (hp, r7) = res := hk
      subst hk
      exact Fx.iret (by decide +kernel) rfl
    replace hf := ifn b21 hf
    by_cases b22 : v3 = 5
    · replace hf := ifp b22 hf
      refine Fx.swX 5 80 b22 (by decide +kernel) ?_
      refine Fx.run [(.aload_n 0, 1, 0, 0, .null), (.iload_n 1, 1, 1, 0, .null), (.iload_n 2, 1, 2, 0, .null)] 83 (by decide +kernel) ?_
      show Fx q_Mo_row 10 sh 83 [some (.ref c), some (.int v1), some (.int v2), some (.int v3)] [.int v2, .int v1, .ref c] hp (some (.int res.2)) res.1
      replace hf := bnd hf
      obtain ⟨r8, hr8, hf⟩ := hf
      refine Fx.callV (rr := (some (.int r8))) (hp1 := hp) [.int v1, .int v2] [] lk_9_178 (by decide +kernel) (t_Mo_longOf sh c (hS) hp v1 v2 r8 hr8) ⟨Nat.le_of_ble_eq_true rfl, Nat.le_of_ble_eq_true rfl⟩ (hS).1 (by decide) rfl (Nat.le_of_ble_eq_true rfl) ?_
      show Fx q_Mo_row 10 sh 86 [some (.ref c), some (.int v1), some (.int v2), some (.int v3)] [.int r8] hp (some (.int res.2)) res.1
      obtain rfl := Option.some.inj hf
      have hk : (hp, r8) = res := hk
      subst hk
      exact Fx.iret (by decide +kernel) rfl
    replace hf := ifn b22 hf
    by_cases b23 : v3 = 6
    · replace hf := ifp b23 hf
      refine Fx.swX 6 87 b23 (by decide +kernel) ?_
      refine Fx.run [(.aload_n 0, 1, 0, 0, .null), (.iload_n 1, 1, 1, 0, .null), (.iload_n 2, 1, 2, 0, .null)] 90 (by decide +kernel) ?_
      show Fx q_Mo_row 10 sh 90 [some (.ref c), some (.int v1), some (.int v2), some (.int v3)] [.int v2, .int v1, .ref c] hp (some (.int res.2)) res.1
      replace hf := bnd hf
      obtain ⟨r9, hr9, hf⟩ := hf
      refine Fx.callV (rr := (some (.int r9))) (hp1 := hp) [.int v1, .int v2] [] lk_9_204 (by decide +kernel) (t_Mo_partners sh c (hS) hp v1 v2 r9 hr9) ⟨Nat.le_of_ble_eq_true rfl, Nat.le_of_ble_eq_true rfl⟩ (hS).1 (by decide) rfl (Nat.le_of_ble_eq_true rfl) ?_
      show Fx q_Mo_row 10 sh 93 [some (.ref c), some (.int v1), some (.int v2), some (.int v3)] [.int r9] hp (some (.int res.2)) res.1
      obtain rfl := Option.some.inj hf
      have hk : (hp, r9) = res := hk
      subst hk
      exact Fx.iret (by decide +kernel) rfl
    replace hf := ifn b23 hf
    by_cases b24 : v3 = 7
    · replace hf := ifp b24 hf
      refine Fx.swX 7 94 b24 (by decide +kernel) ?_
      refine Fx.run [(.aload_n 0, 1, 0, 0, .null), (.iload_n 1, 1, 1, 0, .null), (.iload_n 2, 1, 2, 0, .null)] 97 (by decide +kernel) ?_
      show Fx q_Mo_row 10 sh 97 [some (.ref c), some (.int v1), some (.int v2), some (.int v3)] [.int v2, .int v1, .ref c] hp (some (.int res.2)) res.1
      replace hf := bnd hf
      obtain ⟨r10, hr10, hf⟩ := hf
      refine Fx.callV (rr := (some (.int r10))) (hp1 := hp) [.int v1, .int v2] [] lk_9_207 (by decide +kernel) (t_Mo_depth sh c (hS) hp v1 v2 r10 hr10) ⟨Nat.le_of_ble_eq_true rfl, Nat.le_of_ble_eq_true rfl⟩ (hS).1 (by decide) rfl (Nat.le_of_ble_eq_true rfl) ?_
      show Fx q_Mo_row 10 sh 100 [some (.ref c), some (.int v1), some (.int v2), some (.int v3)] [.int r10] hp (some (.int res.2)) res.1
      obtain rfl := Option.some.inj hf
      have hk : (hp, r10) = res := hk
      subst hk
      exact Fx.iret (by decide +kernel) rfl
    replace hf := ifn b24 hf
    by_cases b25 : v3 = 8
    · replace hf := ifp b25 hf
      refine Fx.swX 8 101 b25 (by decide +kernel) ?_
      refine Fx.run [(.aload_n 0, 1, 0, 0, .null), (.iload_n 1, 1, 1, 0, .null), (.iload_n 2, 1, 2, 0, .null)] 104 (by decide +kernel) ?_
      show Fx q_Mo_row 10 sh 104 [some (.ref c), some (.int v1), some (.int v2), some (.int v3)] [.int v2, .int v1, .ref c] hp (some (.int res.2)) res.1
      replace hf := bnd hf
      obtain ⟨h12, hr11, hf⟩ := hf
      refine Fx.callV (rr := none) (hp1 := h12) [.int v1, .int v2] [] lk_9_198 (by decide +kernel) (t_Mo_covers sh c (hS) hp v1 v2 h12 hr11) ⟨Nat.le_of_ble_eq_true rfl, Nat.le_of_ble_eq_true rfl⟩ (hS).1 (by decide) rfl (Nat.le_of_ble_eq_true rfl) ?_
      show Fx q_Mo_row 10 sh 107 [some (.ref c), some (.int v1), some (.int v2), some (.int v3)] [] h12 (some (.int res.2)) res.1
      refine Fx.run [(.aload_n 0, 1, 0, 0, .null), (.getfield 181, 3, 9, 6, .null)] 111 (by decide +kernel) ?_
      show isK sh c 9 ∧ Fx q_Mo_row 10 sh 111 [some (.ref c), some (.int v1), some (.int v2), some (.int v3)] [.int (h12.1 c 6)] h12 (some (.int res.2)) res.1
      refine ⟨hS.1, ?_⟩
      obtain rfl := Option.some.inj hf
      have hk : (h12, (h12.1 c 6)) = res := hk
      subst hk
      exact Fx.iret (by decide +kernel) rfl
    replace hf := ifn b25 hf
    by_cases b26 : v3 = 9
    · replace hf := ifp b26 hf
      refine Fx.swX 9 112 b26 (by decide +kernel) ?_
      refine Fx.run [(.aload_n 0, 1, 0, 0, .null), (.iload_n 1, 1, 1, 0, .null), (.iload_n 2, 1, 2, 0, .null)] 115 (by decide +kernel) ?_
      show Fx q_Mo_row 10 sh 115 [some (.ref c), some (.int v1), some (.int v2), some (.int v3)] [.int v2, .int v1, .ref c] hp (some (.int res.2)) res.1
      replace hf := bnd hf
      obtain ⟨⟨h14, r13⟩, hr13, hf⟩ := hf
      dsimp only at hf
      refine Fx.callV (rr := (some (.int r13))) (hp1 := h14) [.int v1, .int v2] [] lk_9_210 (by decide +kernel) (t_Mo_leftOver sh c (hS) hp v1 v2 (h14, r13) hr13) ⟨Nat.le_of_ble_eq_true rfl, Nat.le_of_ble_eq_true rfl⟩ (hS).1 (by decide) rfl (Nat.le_of_ble_eq_true rfl) ?_
      show Fx q_Mo_row 10 sh 118 [some (.ref c), some (.int v1), some (.int v2), some (.int v3)] [.int r13] h14 (some (.int res.2)) res.1
      obtain rfl := Option.some.inj hf
      have hk : (h14, r13) = res := hk
      subst hk
      exact Fx.iret (by decide +kernel) rfl
    replace hf := ifn b26 hf
    by_cases b27 : v3 = 10
    · replace hf := ifp b27 hf
      refine Fx.swX 10 119 b27 (by decide +kernel) ?_
      refine Fx.run [(.aload_n 0, 1, 0, 0, .null), (.iload_n 1, 1, 1, 0, .null), (.iload_n 2, 1, 2, 0, .null)] 122 (by decide +kernel) ?_
      show Fx q_Mo_row 10 sh 122 [some (.ref c), some (.int v1), some (.int v2), some (.int v3)] [.int v2, .int v1, .ref c] hp (some (.int res.2)) res.1
      replace hf := bnd hf
      obtain ⟨⟨h16, r15⟩, hr15, hf⟩ := hf
      dsimp only at hf
      refine Fx.callV (rr := (some (.int r15))) (hp1 := h16) [.int v1, .int v2] [] lk_9_213 (by decide +kernel) (t_Mo_coveredLong sh c (hS) hp v1 v2 (h16, r15) hr15) ⟨Nat.le_of_ble_eq_true rfl, Nat.le_of_ble_eq_true rfl⟩ (hS).1 (by decide) rfl (Nat.le_of_ble_eq_true rfl) ?_
      show Fx q_Mo_row 10 sh 125 [some (.ref c), some (.int v1), some (.int v2), some (.int v3)] [.int r15] h16 (some (.int res.2)) res.1
      obtain rfl := Option.some.inj hf
      have hk : (h16, r15) = res := hk
      subst hk
      exact Fx.iret (by decide +kernel) rfl
    replace hf := ifn b27 hf
    refine Fx.swD [0, 1, 2, 3, 4, 5, 6, 7, 8, 9, 10] 126 (by decide +kernel) (List.forall_mem_cons.mpr ⟨b17, (List.forall_mem_cons.mpr ⟨b18, (List.forall_mem_cons.mpr ⟨b19, (List.forall_mem_cons.mpr ⟨b20, (List.forall_mem_cons.mpr ⟨b21, (List.forall_mem_cons.mpr ⟨b22, (List.forall_mem_cons.mpr ⟨b23, (List.forall_mem_cons.mpr ⟨b24, (List.forall_mem_cons.mpr ⟨b25, (List.forall_mem_cons.mpr ⟨b26, (List.forall_mem_cons.mpr ⟨b27, (fun _ h => absurd h List.not_mem_nil)⟩)⟩)⟩)⟩)⟩)⟩)⟩)⟩)⟩)⟩)⟩) ?_
    refine Fx.run [(.ldc 79, 2, 0, 0, .int (-10000000))] 128 (by decide +kernel) ?_
    show Fx q_Mo_row 10 sh 128 [some (.ref c), some (.int v1), some (.int v2), some (.int v3)] [.int (-10000000)] hp (some (.int res.2)) res.1
    obtain rfl := Option.some.inj hf
    have hk : (hp, (-10000000)) = res := hk
    subst hk
    exact Fx.iret (by decide +kernel) rfl
  · replace hf := ifp b2 hf
    refine Fx.run [(.ldc 79, 2, 0, 0, .int (-10000000))] 11 (by decide +kernel) ?_
    show Fx q_Mo_row 10 sh 11 [some (.ref c), some (.int v1), some (.int v2), some (.int v3)] [.int (-10000000)] hp (some (.int res.2)) res.1
    obtain rfl := Option.some.inj hf
    have hk : (hp, (-10000000)) = res := hk
    subst hk
    exact Fx.iret (by decide +kernel) rfl
set_option maxHeartbeats 4000000 in
set_option maxRecDepth 20000 in
theorem t_Mo_kind (sh : Shp) (c : Nat) (hS : S_Mo sh c) (hp : HP) (v1 : Int32) (v2 : Int32) (v3 : Int32) (v4 : Int32) (res : Int32) (hf : f_Mo_kind c hp v1 v2 v3 v4 = some res) : Ex 5 q_Mo_kind sh [.ref c, .int v1, .int v2, .int v3, .int v4] hp (some (.int res)) hp := by
  refine Ex.of [some (.ref c), some (.int v1), some (.int v2), some (.int v3), some (.int v4)] rfl (Nat.le_of_ble_eq_true rfl) (by decide +kernel) rfl ?_
  obtain ⟨t, hk⟩ : ∃ t, t = res := ⟨res, rfl⟩
  rw [← hk] at hf
  unfold f_Mo_kind at hf
  refine Fx.run [(.aload_n 0, 1, 0, 0, .null), (.iload_n 1, 1, 1, 0, .null), (.iload_n 2, 1, 2, 0, .null)] 3 (by decide +kernel) ?_
  show Fx q_Mo_kind 5 sh 3 [some (.ref c), some (.int v1), some (.int v2), some (.int v3), some (.int v4)] [.int v2, .int v1, .ref c] hp (some (.int res)) hp
  replace hf := bnd hf
  obtain ⟨r1, hr1, hf⟩ := hf
  refine Fx.callV (rr := (some (.int r1))) (hp1 := hp) [.int v1, .int v2] [] lk_9_201 (by decide +kernel) (t_Mo_isRow sh c (hS) hp v1 v2 r1 hr1) ⟨Nat.le_of_ble_eq_true rfl, Nat.le_of_ble_eq_true rfl⟩ (hS).1 (by decide) rfl (Nat.le_of_ble_eq_true rfl) ?_
  show Fx q_Mo_kind 5 sh 6 [some (.ref c), some (.int v1), some (.int v2), some (.int v3), some (.int v4)] [.int r1] hp (some (.int res)) hp
  refine Fx.if_eq (25) 31 9 (by decide +kernel) (fun b2 => ?_) (fun b2 => ?_)
  · replace hf := ifp b2 hf
    refine Fx.run [(.iconst (-1), 1, 0, 0, .int (-1))] 32 (by decide +kernel) ?_
    show Fx q_Mo_kind 5 sh 32 [some (.ref c), some (.int v1), some (.int v2), some (.int v3), some (.int v4)] [.int (-1)] hp (some (.int res)) hp
    obtain rfl := Option.some.inj hf
    have hk : (-1) = res := hk
    subst hk
    exact Fx.iret (by decide +kernel) rfl
  · replace hf := ifn b2 hf
    refine Fx.run [(.aload_n 0, 1, 0, 0, .null), (.iload_n 3, 1, 3, 0, .null), (.iload 4, 2, 4, 0, .null)] 13 (by decide +kernel) ?_
    show Fx q_Mo_kind 5 sh 13 [some (.ref c), some (.int v1), some (.int v2), some (.int v3), some (.int v4)] [.int v4, .int v3, .ref c] hp (some (.int res)) hp
    replace hf := bnd hf
    obtain ⟨r3, hr3, hf⟩ := hf
    refine Fx.callV (rr := (some (.int r3))) (hp1 := hp) [.int v3, .int v4] [] lk_9_201 (by decide +kernel) (t_Mo_isRow sh c (hS) hp v3 v4 r3 hr3) ⟨Nat.le_of_ble_eq_true rfl, Nat.le_of_ble_eq_true rfl⟩ (hS).1 (by decide) rfl (Nat.le_of_ble_eq_true rfl) ?_
    show Fx q_Mo_kind 5 sh 16 [some (.ref c), some (.int v1), some (.int v2), some (.int v3), some (.int v4)] [.int r3] hp (some (.int res)) hp
    refine Fx.if_eq (15) 31 19 (by decide +kernel) (fun b4 => ?_) (fun b4 => ?_)
    · replace hf := ifp b4 hf
      refine Fx.run [(.iconst (-1), 1, 0, 0, .int (-1))] 32 (by decide +kernel) ?_
      show Fx q_Mo_kind 5 sh 32 [some (.ref c), some (.int v1), some (.int v2), some (.int v3), some (.int v4)] [.int (-1)] hp (some (.int res)) hp
      obtain rfl := Option.some.inj hf
      have hk : (-1) = res := hk
      subst hk
      exact Fx.iret (by decide +kernel) rfl
    · replace hf := ifn b4 hf
      refine Fx.run [(.aload_n 0, 1, 0, 0, .null), (.iload_n 1, 1, 1, 0, .null), (.iload_n 2, 1, 2, 0, .null), (.iload_n 3, 1, 3, 0, .null), (.iload 4, 2, 4, 0, .null)] 25 (by decide +kernel) ?_
      show Fx q_Mo_kind 5 sh 25 [some (.ref c), some (.int v1), some (.int v2), some (.int v3), some (.int v4)] [.int v4, .int v3, .int v2, .int v1, .ref c] hp (some (.int res)) hp
      replace hf := bnd hf
      obtain ⟨r5, hr5, hf⟩ := hf
      refine Fx.callV (rr := (some (.int r5))) (hp1 := hp) [.int v1, .int v2, .int v3, .int v4] [] lk_9_66 (by decide +kernel) (t_Mo_kindBetween sh c (hS) hp v1 v2 v3 v4 r5 hr5) ⟨Nat.le_of_ble_eq_true rfl, Nat.le_of_ble_eq_true rfl⟩ (hS).1 (by decide) rfl (Nat.le_of_ble_eq_true rfl) ?_
      show Fx q_Mo_kind 5 sh 28 [some (.ref c), some (.int v1), some (.int v2), some (.int v3), some (.int v4)] [.int r5] hp (some (.int res)) hp
      refine Fx.goto (4) 32 (by decide +kernel) ?_
      obtain rfl := Option.some.inj hf
      have hk : r5 = res := hk
      subst hk
      exact Fx.iret (by decide +kernel) rfl
set_option maxHeartbeats 4000000 in
set_option maxRecDepth 20000 in
theorem t_Mo_piece (sh : Shp) (c : Nat) (hS : S_Mo sh c) (hp : HP) (v1 : Int32) (v2 : Int32) (v3 : Int32) (v4 : Int32) (res : (HP × Int32)) (hf : f_Mo_piece c hp v1 v2 v3 v4 = some res) : Ex 9 q_Mo_piece sh [.ref c, .int v1, .int v2, .int v3, .int v4] hp (some (.int res.2)) res.1 := by
  refine Ex.of [some (.ref c), some (.int v1), some (.int v2), some (.int v3), some (.int v4)] rfl (Nat.le_of_ble_eq_true rfl) (by decide +kernel) rfl ?_
  obtain ⟨t, hk⟩ : ∃ t, t = res := ⟨res, rfl⟩
  rw [← hk] at hf
  unfold f_Mo_piece at hf
  refine Fx.run [(.aload_n 0, 1, 0, 0, .null), (.iload_n 1, 1, 1, 0, .null), (.iload_n 2, 1, 2, 0, .null)] 3 (by decide +kernel) ?_
  show Fx q_Mo_piece 9 sh 3 [some (.ref c), some (.int v1), some (.int v2), some (.int v3), some (.int v4)] [.int v2, .int v1, .ref c] hp (some (.int res.2)) res.1
  replace hf := bnd hf
  obtain ⟨r1, hr1, hf⟩ := hf
  refine Fx.callV (rr := (some (.int r1))) (hp1 := hp) [.int v1, .int v2] [] lk_9_201 (by decide +kernel) (t_Mo_isRow sh c (hS) hp v1 v2 r1 hr1) ⟨Nat.le_of_ble_eq_true rfl, Nat.le_of_ble_eq_true rfl⟩ (hS).1 (by decide) rfl (Nat.le_of_ble_eq_true rfl) ?_
  show Fx q_Mo_piece 9 sh 6 [some (.ref c), some (.int v1), some (.int v2), some (.int v3), some (.int v4)] [.int r1] hp (some (.int res.2)) res.1
  refine Fx.if_ne (6) 12 9 (by decide +kernel) (fun b2 => ?_) (fun b2 => ?_)
  · replace hf := ifn b2 hf
    refine Fx.run [(.aload_n 0, 1, 0, 0, .null), (.iload_n 1, 1, 1, 0, .null), (.iload_n 2, 1, 2, 0, .null)] 15 (by decide +kernel) ?_
    show Fx q_Mo_piece 9 sh 15 [some (.ref c), some (.int v1), some (.int v2), some (.int v3), some (.int v4)] [.int v2, .int v1, .ref c] hp (some (.int res.2)) res.1
    replace hf := bnd hf
    obtain ⟨h4, hr3, hf⟩ := hf
    refine Fx.callV (rr := none) (hp1 := h4) [.int v1, .int v2] [] lk_9_198 (by decide +kernel) (t_Mo_covers sh c (hS) hp v1 v2 h4 hr3) ⟨Nat.le_of_ble_eq_true rfl, Nat.le_of_ble_eq_true rfl⟩ (hS).1 (by decide) rfl (Nat.le_of_ble_eq_true rfl) ?_
    show Fx q_Mo_piece 9 sh 18 [some (.ref c), some (.int v1), some (.int v2), some (.int v3), some (.int v4)] [] h4 (some (.int res.2)) res.1
    refine Fx.run [(.iload_n 3, 1, 3, 0, .null), (.iconst 0, 1, 0, 0, .int 0), (.aload_n 0, 1, 0, 0, .null), (.getfield 181, 3, 9, 6, .null), (.iconst 1, 1, 0, 0, .int 1), (.isub, 1, 0, 0, .null)] 26 (by decide +kernel) ?_
    show isK sh c 9 ∧ Fx q_Mo_piece 9 sh 26 [some (.ref c), some (.int v1), some (.int v2), some (.int v3), some (.int v4)] [.int ((h4.1 c 6) - 1), .int 0, .int v3] h4 (some (.int res.2)) res.1
    refine ⟨hS.1, ?_⟩
    replace hf := bnd hf
    obtain ⟨r5, hr5, hf⟩ := hf
    refine Fx.callS (rr := (some (.int r5))) (hp1 := h4) [.int v3, .int 0, .int ((h4.1 c 6) - 1)] [] lk_9_48 (by decide +kernel) (t_Mo_isIn sh h4 v3 0 ((h4.1 c 6) - 1) r5 hr5) ⟨Nat.le_of_ble_eq_true rfl, Nat.le_of_ble_eq_true rfl⟩ rfl (Nat.le_of_ble_eq_true rfl) ?_
    show Fx q_Mo_piece 9 sh 29 [some (.ref c), some (.int v1), some (.int v2), some (.int v3), some (.int v4)] [.int r5] h4 (some (.int res.2)) res.1
    refine Fx.if_ne (6) 35 32 (by decide +kernel) (fun b6 => ?_) (fun b6 => ?_)
    · replace hf := ifn b6 hf
      refine Fx.run [(.iload 4, 2, 4, 0, .null)] 37 (by decide +kernel) ?_
      show Fx q_Mo_piece 9 sh 37 [some (.ref c), some (.int v1), some (.int v2), some (.int v3), some (.int v4)] [.int v4] h4 (some (.int res.2)) res.1
      refine Fx.if_ne (15) 52 40 (by decide +kernel) (fun b7 => ?_) (fun b7 => ?_)
      · replace hf := ifn b7 hf
        refine Fx.run [(.iload 4, 2, 4, 0, .null), (.iconst 1, 1, 0, 0, .int 1)] 55 (by decide +kernel) ?_
        show Fx q_Mo_piece 9 sh 55 [some (.ref c), some (.int v1), some (.int v2), some (.int v3), some (.int v4)] [.int 1, .int v4] h4 (some (.int res.2)) res.1
        refine Fx.icmp_ne (15) 70 58 (by decide +kernel) (fun b8 => ?_) (fun b8 => ?_)
        · replace hf := ifn b8 hf
          refine Fx.run [(.iload 4, 2, 4, 0, .null), (.iconst 2, 1, 0, 0, .int 2)] 73 (by decide +kernel) ?_
          show Fx q_Mo_piece 9 sh 73 [some (.ref c), some (.int v1), some (.int v2), some (.int v3), some (.int v4)] [.int 2, .int v4] h4 (some (.int res.2)) res.1
          refine Fx.icmp_ne (12) 85 76 (by decide +kernel) (fun b9 => ?_) (fun b9 => ?_)
          · replace hf := ifn b9 hf
            refine Fx.run [(.ldc 79, 2, 0, 0, .int (-10000000))] 87 (by decide +kernel) ?_
            show Fx q_Mo_piece 9 sh 87 [some (.ref c), some (.int v1), some (.int v2), some (.int v3), some (.int v4)] [.int (-10000000)] h4 (some (.int res.2)) res.1
            obtain rfl := Option.some.inj hf
            have hk : (h4, (-10000000)) = res := hk
            subst hk
            exact Fx.iret (by decide +kernel) rfl
          · replace hf := ifp b9 hf
            replace hf := gd hf
            obtain ⟨g10, hf⟩ := hf
            refine Fx.run [(.aload_n 0, 1, 0, 0, .null), (.getfield 22, 3, 9, 5, .ref 5), (.iload_n 3, 1, 3, 0, .null), (.iaload, 1, 200, 0, .null)] 82 (by decide +kernel) ?_
            show isK sh c 9 ∧ (isA sh (c + 5) 10 200 ∧ inb v3 200) ∧ Fx q_Mo_piece 9 sh 82 [some (.ref c), some (.int v1), some (.int v2), some (.int v3), some (.int v4)] [.int (h4.1 (c + 5) (ix v3))] h4 (some (.int res.2)) res.1
            refine ⟨hS.1, ⟨hS.2.2.2.2.2.1, g10⟩, ?_⟩
            refine Fx.goto (5) 87 (by decide +kernel) ?_
            obtain rfl := Option.some.inj hf
            have hk : (h4, (h4.1 (c + 5) (ix v3))) = res := hk
            subst hk
            exact Fx.iret (by decide +kernel) rfl
        · replace hf := ifp b8 hf
          replace hf := gd hf
          obtain ⟨g11, hf⟩ := hf
          refine Fx.run [(.aload_n 0, 1, 0, 0, .null), (.getfield 19, 3, 9, 4, .ref 4), (.iload_n 3, 1, 3, 0, .null), (.iaload, 1, 200, 0, .null)] 64 (by decide +kernel) ?_
          show isK sh c 9 ∧ (isA sh (c + 4) 10 200 ∧ inb v3 200) ∧ Fx q_Mo_piece 9 sh 64 [some (.ref c), some (.int v1), some (.int v2), some (.int v3), some (.int v4)] [.int (h4.1 (c + 4) (ix v3))] h4 (some (.int res.2)) res.1
          refine ⟨hS.1, ⟨hS.2.2.2.2.1, g11⟩, ?_⟩
          replace hf := bnd hf
          obtain ⟨r12, hr12, hf⟩ := hf
          refine Fx.callS (rr := (some (.int r12))) (hp1 := h4) [.int (h4.1 (c + 4) (ix v3))] [] lk_9_164 (by decide +kernel) (t_Mo_time sh h4 (h4.1 (c + 4) (ix v3)) r12 hr12) ⟨Nat.le_of_ble_eq_true rfl, Nat.le_of_ble_eq_true rfl⟩ rfl (Nat.le_of_ble_eq_true rfl) ?_
          show Fx q_Mo_piece 9 sh 67 [some (.ref c), some (.int v1), some (.int v2), some (.int v3), some (.int v4)] [.int r12] h4 (some (.int res.2)) res.1
          refine Fx.goto (20) 87 (by decide +kernel) ?_
          obtain rfl := Option.some.inj hf
          have hk : (h4, r12) = res := hk
          subst hk
          exact Fx.iret (by decide +kernel) rfl
      · replace hf := ifp b7 hf
        replace hf := gd hf
        obtain ⟨g13, hf⟩ := hf
        refine Fx.run [(.aload_n 0, 1, 0, 0, .null), (.getfield 16, 3, 9, 3, .ref 3), (.iload_n 3, 1, 3, 0, .null), (.iaload, 1, 200, 0, .null)] 46 (by decide +kernel) ?_
        show isK sh c 9 ∧ (isA sh (c + 3) 10 200 ∧ inb v3 200) ∧ Fx q_Mo_piece 9 sh 46 [some (.ref c), some (.int v1), some (.int v2), some (.int v3), some (.int v4)] [.int (h4.1 (c + 3) (ix v3))] h4 (some (.int res.2)) res.1
        refine ⟨hS.1, ⟨hS.2.2.2.1, g13⟩, ?_⟩
        replace hf := bnd hf
        obtain ⟨r14, hr14, hf⟩ := hf
        refine Fx.callS (rr := (some (.int r14))) (hp1 := h4) [.int (h4.1 (c + 3) (ix v3))] [] lk_9_164 (by decide +kernel) (t_Mo_time sh h4 (h4.1 (c + 3) (ix v3)) r14 hr14) ⟨Nat.le_of_ble_eq_true rfl, Nat.le_of_ble_eq_true rfl⟩ rfl (Nat.le_of_ble_eq_true rfl) ?_
        show Fx q_Mo_piece 9 sh 49 [some (.ref c), some (.int v1), some (.int v2), some (.int v3), some (.int v4)] [.int r14] h4 (some (.int res.2)) res.1
        refine Fx.goto (38) 87 (by decide +kernel) ?_
        obtain rfl := Option.some.inj hf
        have hk : (h4, r14) = res := hk
        subst hk
        exact Fx.iret (by decide +kernel) rfl
    · replace hf := ifp b6 hf
      refine Fx.run [(.ldc 79, 2, 0, 0, .int (-10000000))] 34 (by decide +kernel) ?_
      show Fx q_Mo_piece 9 sh 34 [some (.ref c), some (.int v1), some (.int v2), some (.int v3), some (.int v4)] [.int (-10000000)] h4 (some (.int res.2)) res.1
      obtain rfl := Option.some.inj hf
      have hk : (h4, (-10000000)) = res := hk
      subst hk
      exact Fx.iret (by decide +kernel) rfl
  · replace hf := ifp b2 hf
    refine Fx.run [(.ldc 79, 2, 0, 0, .int (-10000000))] 11 (by decide +kernel) ?_
    show Fx q_Mo_piece 9 sh 11 [some (.ref c), some (.int v1), some (.int v2), some (.int v3), some (.int v4)] [.int (-10000000)] hp (some (.int res.2)) res.1
    obtain rfl := Option.some.inj hf
    have hk : (hp, (-10000000)) = res := hk
    subst hk
    exact Fx.iret (by decide +kernel) rfl
abbrev P_Mo_left_16 (sh : Shp) (c : Nat) (v1 : Int32) (v2 : Int32) (v3 : Int32) (res : (HP × Int32)) : (HP × Int32 × Int32) → Prop := fun s => Fx q_Mo_left 9 sh 16 [some (.ref c), some (.int v1), some (.int v2), some (.int v3), some (.int s.2.1), some (.int s.2.2), none] [] s.1 (some (.int res.2)) res.1
abbrev P_Mo_left_39 (sh : Shp) (c : Nat) (hp : HP) (v1 : Int32) (v2 : Int32) (v3 : Int32) (v5 : Int32) (res : (HP × Int32)) : (Int32 × Int32) → Prop := fun s => Fx q_Mo_left 9 sh 39 [some (.ref c), some (.int v1), some (.int v2), some (.int v3), some (.int s.1), some (.int v5), some (.int s.2)] [] hp (some (.int res.2)) res.1
set_option maxHeartbeats 4000000 in
set_option maxRecDepth 20000 in
theorem t_Mo_left_l39 (sh : Shp) (c : Nat) (hS : S_Mo sh c) (hp : HP) (v1 : Int32) (v2 : Int32) (v3 : Int32) (v5 : Int32) (res : (HP × Int32)) : ∀ (s : (Int32 × Int32)) (t : ((HP × Int32 × Int32) ⊕ (HP × Int32))), f_Mo_left_l39 c hp v1 v2 v3 v5 s = some t → (Kel (P_Mo_left_16 sh c v1 v2 v3 res) (fun v => v = res)) t → P_Mo_left_39 sh c hp v1 v2 v3 v5 res s := by
  refine loop_ind (P_Mo_left_39 sh c hp v1 v2 v3 v5 res) (Kel (P_Mo_left_16 sh c v1 v2 v3 res) (fun v => v = res)) ?_
  intro s t hf hk
  obtain ⟨v4, v6⟩ := s
  replace hf : f_Mo_left_b39 c hp v1 v2 v3 v5 v4 v6 = some t := hf
  show Fx q_Mo_left 9 sh 39 [some (.ref c), some (.int v1), some (.int v2), some (.int v3), some (.int v4), some (.int v5), some (.int v6)] [] hp (some (.int res.2)) res.1
  unfold f_Mo_left_b39 at hf
  refine Fx.run [(.iload 6, 2, 6, 0, .null), (.aload_n 0, 1, 0, 0, .null), (.getfield 181, 3, 9, 6, .null)] 45 (by decide +kernel) ?_
  show isK sh c 9 ∧ Fx q_Mo_left 9 sh 45 [some (.ref c), some (.int v1), some (.int v2), some (.int v3), some (.int v4), some (.int v5), some (.int v6)] [.int (hp.1 c 6), .int v6] hp (some (.int res.2)) res.1
  refine ⟨hS.1, ?_⟩
  refine Fx.icmp_ge (80) 125 48 (by decide +kernel) (fun b8 => ?_) (fun b8 => ?_)
  · replace hf := ifp b8 hf
    replace hf := mpd hf
    obtain ⟨t, hf, rfl⟩ := hf
    refine Fx.run [(.iinc 5 1, 3, 5, 0, .int 1)] 128 (by decide +kernel) ?_
    show Fx q_Mo_left 9 sh 128 [some (.ref c), some (.int v1), some (.int v2), some (.int v3), some (.int v4), some (.int (v5 + 1)), some (.int v6)] [] hp (some (.int res.2)) res.1
    refine Fx.goto (-112) 16 (by decide +kernel) ?_
    obtain rfl := Option.some.inj hf
    have hk : Fx q_Mo_left 9 sh 16 [some (.ref c), some (.int v1), some (.int v2), some (.int v3), some (.int v4), some (.int (v5 + 1)), none] [] hp (some (.int res.2)) res.1 := hk
    exact Fx.le hk (And.intro rfl (And.intro rfl (And.intro rfl (And.intro rfl (And.intro rfl (And.intro rfl trivial))))))
  · replace hf := ifn b8 hf
    replace hf := gd hf
    obtain ⟨g9, hf⟩ := hf
    refine Fx.run [(.aload_n 0, 1, 0, 0, .null), (.getfield 22, 3, 9, 5, .ref 5), (.iload 6, 2, 6, 0, .null), (.iaload, 1, 200, 0, .null), (.iconst (-1), 1, 0, 0, .int (-1))] 56 (by decide +kernel) ?_
    show isK sh c 9 ∧ (isA sh (c + 5) 10 200 ∧ inb v6 200) ∧ Fx q_Mo_left 9 sh 56 [some (.ref c), some (.int v1), some (.int v2), some (.int v3), some (.int v4), some (.int v5), some (.int v6)] [.int (-1), .int (hp.1 (c + 5) (ix v6))] hp (some (.int res.2)) res.1
    refine ⟨hS.1, ⟨hS.2.2.2.2.2.1, g9⟩, ?_⟩
    refine Fx.icmp_eq (6) 62 59 (by decide +kernel) (fun b10 => ?_) (fun b10 => ?_)
    · replace hf := ifp b10 hf
      refine Fx.run [(.iload 4, 2, 4, 0, .null), (.iload_n 2, 1, 2, 0, .null)] 65 (by decide +kernel) ?_
      show Fx q_Mo_left 9 sh 65 [some (.ref c), some (.int v1), some (.int v2), some (.int v3), some (.int v4), some (.int v5), some (.int v6)] [.int v2, .int v4] hp (some (.int res.2)) res.1
      refine Fx.icmp_ne (51) 116 68 (by decide +kernel) (fun b11 => ?_) (fun b11 => ?_)
      · replace hf := ifn b11 hf
        refine Fx.run [(.iinc 4 1, 3, 4, 0, .int 1), (.iinc 6 1, 3, 6, 0, .int 1)] 122 (by decide +kernel) ?_
        show Fx q_Mo_left 9 sh 122 [some (.ref c), some (.int v1), some (.int v2), some (.int v3), some (.int (v4 + 1)), some (.int v5), some (.int (v6 + 1))] [] hp (some (.int res.2)) res.1
        refine Fx.goto (-83) 39 (by decide +kernel) ?_
        obtain rfl := Option.some.inj hf
        have hk : Fx q_Mo_left 9 sh 39 [some (.ref c), some (.int v1), some (.int v2), some (.int v3), some (.int (v4 + 1)), some (.int v5), some (.int (v6 + 1))] [] hp (some (.int res.2)) res.1 := hk
        exact Fx.le hk (And.intro rfl (And.intro rfl (And.intro rfl (And.intro rfl (And.intro rfl (And.intro rfl (And.intro rfl trivial)))))))
      · replace hf := ifp b11 hf
        replace hf := mpd hf
        obtain ⟨t, hf, rfl⟩ := hf
        replace hf := mpd hf
        obtain ⟨t, hf, rfl⟩ := hf
        refine Fx.run [(.iload_n 3, 1, 3, 0, .null)] 69 (by decide +kernel) ?_
        show Fx q_Mo_left 9 sh 69 [some (.ref c), some (.int v1), some (.int v2), some (.int v3), some (.int v4), some (.int v5), some (.int v6)] [.int v3] hp (some (.int res.2)) res.1
        refine Fx.if_ne (8) 77 72 (by decide +kernel) (fun b12 => ?_) (fun b12 => ?_)
        · replace hf := ifn b12 hf
          refine Fx.run [(.iload_n 3, 1, 3, 0, .null), (.iconst 1, 1, 0, 0, .int 1)] 79 (by decide +kernel) ?_
          show Fx q_Mo_left 9 sh 79 [some (.ref c), some (.int v1), some (.int v2), some (.int v3), some (.int v4), some (.int v5), some (.int v6)] [.int 1, .int v3] hp (some (.int res.2)) res.1
          refine Fx.icmp_ne (16) 95 82 (by decide +kernel) (fun b13 => ?_) (fun b13 => ?_)
          · replace hf := ifn b13 hf
            refine Fx.run [(.iload_n 3, 1, 3, 0, .null), (.iconst 2, 1, 0, 0, .int 2)] 97 (by decide +kernel) ?_
            show Fx q_Mo_left 9 sh 97 [some (.ref c), some (.int v1), some (.int v2), some (.int v3), some (.int v4), some (.int v5), some (.int v6)] [.int 2, .int v3] hp (some (.int res.2)) res.1
            refine Fx.icmp_ne (16) 113 100 (by decide +kernel) (fun b14 => ?_) (fun b14 => ?_)
            · replace hf := ifn b14 hf
              refine Fx.run [(.ldc 79, 2, 0, 0, .int (-10000000))] 115 (by decide +kernel) ?_
              show Fx q_Mo_left 9 sh 115 [some (.ref c), some (.int v1), some (.int v2), some (.int v3), some (.int v4), some (.int v5), some (.int v6)] [.int (-10000000)] hp (some (.int res.2)) res.1
              obtain rfl := Option.some.inj hf
              have hk : (hp, (-10000000)) = res := hk
              subst hk
              exact Fx.iret (by decide +kernel) rfl
            · replace hf := ifp b14 hf
              replace hf := gd hf
              obtain ⟨g15, hf⟩ := hf
              refine Fx.run [(.aload_n 0, 1, 0, 0, .null), (.getfield 19, 3, 9, 4, .ref 4), (.iload 6, 2, 6, 0, .null), (.iaload, 1, 200, 0, .null)] 107 (by decide +kernel) ?_
              show isK sh c 9 ∧ (isA sh (c + 4) 10 200 ∧ inb v6 200) ∧ Fx q_Mo_left 9 sh 107 [some (.ref c), some (.int v1), some (.int v2), some (.int v3), some (.int v4), some (.int v5), some (.int v6)] [.int (hp.1 (c + 4) (ix v6))] hp (some (.int res.2)) res.1
              refine ⟨hS.1, ⟨hS.2.2.2.2.1, g15⟩, ?_⟩
              replace hf := bnd hf
              obtain ⟨r16, hr16, hf⟩ := hf
              refine Fx.callS (rr := (some (.int r16))) (hp1 := hp) [.int (hp.1 (c + 4) (ix v6))] [] lk_9_164 (by decide +kernel) (t_Mo_time sh hp (hp.1 (c + 4) (ix v6)) r16 hr16) ⟨Nat.le_of_ble_eq_true rfl, Nat.le_of_ble_eq_true rfl⟩ rfl (Nat.le_of_ble_eq_true rfl) ?_
              show Fx q_Mo_left 9 sh 110 [some (.ref c), some (.int v1), some (.int v2), some (.int v3), some (.int v4), some (.int v5), some (.int v6)] [.int r16] hp (some (.int res.2)) res.1
              refine Fx.goto (5) 115 (by decide +kernel) ?_
              obtain rfl := Option.some.inj hf
              have hk : (hp, r16) = res := hk
              subst hk
              exact Fx.iret (by decide +kernel) rfl
          · replace hf := ifp b13 hf
            replace hf := gd hf
            obtain ⟨g17, hf⟩ := hf
            refine Fx.run [(.aload_n 0, 1, 0, 0, .null), (.getfield 16, 3, 9, 3, .ref 3), (.iload 6, 2, 6, 0, .null), (.iaload, 1, 200, 0, .null)] 89 (by decide +kernel) ?_
            show isK sh c 9 ∧ (isA sh (c + 3) 10 200 ∧ inb v6 200) ∧ Fx q_Mo_left 9 sh 89 [some (.ref c), some (.int v1), some (.int v2), some (.int v3), some (.int v4), some (.int v5), some (.int v6)] [.int (hp.1 (c + 3) (ix v6))] hp (some (.int res.2)) res.1
            refine ⟨hS.1, ⟨hS.2.2.2.1, g17⟩, ?_⟩
            replace hf := bnd hf
            obtain ⟨r18, hr18, hf⟩ := hf
            refine Fx.callS (rr := (some (.int r18))) (hp1 := hp) [.int (hp.1 (c + 3) (ix v6))] [] lk_9_164 (by decide +kernel) (t_Mo_time sh hp (hp.1 (c + 3) (ix v6)) r18 hr18) ⟨Nat.le_of_ble_eq_true rfl, Nat.le_of_ble_eq_true rfl⟩ rfl (Nat.le_of_ble_eq_true rfl) ?_
            show Fx q_Mo_left 9 sh 92 [some (.ref c), some (.int v1), some (.int v2), some (.int v3), some (.int v4), some (.int v5), some (.int v6)] [.int r18] hp (some (.int res.2)) res.1
            refine Fx.goto (23) 115 (by decide +kernel) ?_
            obtain rfl := Option.some.inj hf
            have hk : (hp, r18) = res := hk
            subst hk
            exact Fx.iret (by decide +kernel) rfl
        · replace hf := ifp b12 hf
          refine Fx.run [(.iload 5, 2, 5, 0, .null)] 74 (by decide +kernel) ?_
          show Fx q_Mo_left 9 sh 74 [some (.ref c), some (.int v1), some (.int v2), some (.int v3), some (.int v4), some (.int v5), some (.int v6)] [.int v5] hp (some (.int res.2)) res.1
          refine Fx.goto (41) 115 (by decide +kernel) ?_
          obtain rfl := Option.some.inj hf
          have hk : (hp, v5) = res := hk
          subst hk
          exact Fx.iret (by decide +kernel) rfl
    · replace hf := ifn b10 hf
      refine Fx.goto (60) 119 (by decide +kernel) ?_
      refine Fx.run [(.iinc 6 1, 3, 6, 0, .int 1)] 122 (by decide +kernel) ?_
      show Fx q_Mo_left 9 sh 122 [some (.ref c), some (.int v1), some (.int v2), some (.int v3), some (.int v4), some (.int v5), some (.int (v6 + 1))] [] hp (some (.int res.2)) res.1
      refine Fx.goto (-83) 39 (by decide +kernel) ?_
      obtain rfl := Option.some.inj hf
      have hk : Fx q_Mo_left 9 sh 39 [some (.ref c), some (.int v1), some (.int v2), some (.int v3), some (.int v4), some (.int v5), some (.int (v6 + 1))] [] hp (some (.int res.2)) res.1 := hk
      exact Fx.le hk (And.intro rfl (And.intro rfl (And.intro rfl (And.intro rfl (And.intro rfl (And.intro rfl (And.intro rfl trivial)))))))
set_option maxHeartbeats 4000000 in
set_option maxRecDepth 20000 in
theorem t_Mo_left_l16 (sh : Shp) (c : Nat) (hS : S_Mo sh c) (hp : HP) (v1 : Int32) (v2 : Int32) (v3 : Int32) (res : (HP × Int32)) : ∀ (s : (HP × Int32 × Int32)) (t : (HP × Int32)), f_Mo_left_l16 c hp v1 v2 v3 s = some t → (fun v => v = res) t → P_Mo_left_16 sh c v1 v2 v3 res s := by
  refine loop_ind (P_Mo_left_16 sh c v1 v2 v3 res) (fun v => v = res) ?_
  intro s t hf hk
  obtain ⟨hp, v4, v5⟩ := s
  replace hf : f_Mo_left_b16 c hp v1 v2 v3 v4 v5 = some t := hf
  show Fx q_Mo_left 9 sh 16 [some (.ref c), some (.int v1), some (.int v2), some (.int v3), some (.int v4), some (.int v5), none] [] hp (some (.int res.2)) res.1
  unfold f_Mo_left_b16 at hf
  replace hf := gd hf
  obtain ⟨g3, hf⟩ := hf
  refine Fx.run [(.iload 5, 2, 5, 0, .null), (.aload_n 0, 1, 0, 0, .null), (.getfield 9, 3, 9, 0, .ref 1), (.iconst 2, 1, 0, 0, .int 2), (.iload_n 1, 1, 1, 0, .null), (.iadd, 1, 0, 0, .null), (.iaload, 1, 4100, 0, .null)] 26 (by decide +kernel) ?_
  show isK sh c 9 ∧ (isA sh (c + 1) 10 4100 ∧ inb (2 + v1) 4100) ∧ Fx q_Mo_left 9 sh 26 [some (.ref c), some (.int v1), some (.int v2), some (.int v3), some (.int v4), some (.int v5), none] [.int (hp.1 (c + 1) (ix (2 + v1))), .int v5] hp (some (.int res.2)) res.1
  refine ⟨hS.1, ⟨hS.2.1, g3⟩, ?_⟩
  refine Fx.icmp_ge (105) 131 29 (by decide +kernel) (fun b4 => ?_) (fun b4 => ?_)
  · replace hf := ifp b4 hf
    replace hf := mpd hf
    obtain ⟨t, hf, rfl⟩ := hf
    refine Fx.run [(.iload_n 2, 1, 2, 0, .null), (.iconst (-1), 1, 0, 0, .int (-1))] 133 (by decide +kernel) ?_
    show Fx q_Mo_left 9 sh 133 [some (.ref c), some (.int v1), some (.int v2), some (.int v3), some (.int v4), some (.int v5), none] [.int (-1), .int v2] hp (some (.int res.2)) res.1
    refine Fx.icmp_ne (8) 141 136 (by decide +kernel) (fun b5 => ?_) (fun b5 => ?_)
    · replace hf := ifn b5 hf
      refine Fx.run [(.ldc 79, 2, 0, 0, .int (-10000000))] 143 (by decide +kernel) ?_
      show Fx q_Mo_left 9 sh 143 [some (.ref c), some (.int v1), some (.int v2), some (.int v3), some (.int v4), some (.int v5), none] [.int (-10000000)] hp (some (.int res.2)) res.1
      obtain rfl := Option.some.inj hf
      have hk : (hp, (-10000000)) = res := hk
      subst hk
      exact Fx.iret (by decide +kernel) rfl
    · replace hf := ifp b5 hf
      refine Fx.run [(.iload 4, 2, 4, 0, .null)] 138 (by decide +kernel) ?_
      show Fx q_Mo_left 9 sh 138 [some (.ref c), some (.int v1), some (.int v2), some (.int v3), some (.int v4), some (.int v5), none] [.int v4] hp (some (.int res.2)) res.1
      refine Fx.goto (5) 143 (by decide +kernel) ?_
      obtain rfl := Option.some.inj hf
      have hk : (hp, v4) = res := hk
      subst hk
      exact Fx.iret (by decide +kernel) rfl
  · replace hf := ifn b4 hf
    refine Fx.run [(.aload_n 0, 1, 0, 0, .null), (.iload_n 1, 1, 1, 0, .null), (.iload 5, 2, 5, 0, .null)] 33 (by decide +kernel) ?_
    show Fx q_Mo_left 9 sh 33 [some (.ref c), some (.int v1), some (.int v2), some (.int v3), some (.int v4), some (.int v5), none] [.int v5, .int v1, .ref c] hp (some (.int res.2)) res.1
    replace hf := bnd hf
    obtain ⟨h7, hr6, hf⟩ := hf
    refine Fx.callV (rr := none) (hp1 := h7) [.int v1, .int v5] [] lk_9_198 (by decide +kernel) (t_Mo_covers sh c (hS) hp v1 v5 h7 hr6) ⟨Nat.le_of_ble_eq_true rfl, Nat.le_of_ble_eq_true rfl⟩ (hS).1 (by decide) rfl (Nat.le_of_ble_eq_true rfl) ?_
    show Fx q_Mo_left 9 sh 36 [some (.ref c), some (.int v1), some (.int v2), some (.int v3), some (.int v4), some (.int v5), none] [] h7 (some (.int res.2)) res.1
    refine Fx.run [(.iconst 0, 1, 0, 0, .int 0), (.istore 6, 2, 6, 0, .null)] 39 (by decide +kernel) ?_
    show Fx q_Mo_left 9 sh 39 [some (.ref c), some (.int v1), some (.int v2), some (.int v3), some (.int v4), some (.int v5), some (.int 0)] [] h7 (some (.int res.2)) res.1
    have hl := t_Mo_left_l39 sh c hS h7 v1 v2 v3 v5 res (v4, 0) _ hf hk
    have hl : Fx q_Mo_left 9 sh 39 [some (.ref c), some (.int v1), some (.int v2), some (.int v3), some (.int v4), some (.int v5), some (.int 0)] [] h7 (some (.int res.2)) res.1 := hl
    exact Fx.le hl (And.intro rfl (And.intro rfl (And.intro rfl (And.intro rfl (And.intro rfl (And.intro rfl (And.intro rfl trivial)))))))
set_option maxHeartbeats 4000000 in
set_option maxRecDepth 20000 in
theorem t_Mo_left (sh : Shp) (c : Nat) (hS : S_Mo sh c) (hp : HP) (v1 : Int32) (v2 : Int32) (v3 : Int32) (res : (HP × Int32)) (hf : f_Mo_left c hp v1 v2 v3 = some res) : Ex 9 q_Mo_left sh [.ref c, .int v1, .int v2, .int v3] hp (some (.int res.2)) res.1 := by
  refine Ex.of [some (.ref c), some (.int v1), some (.int v2), some (.int v3), none, none, none] rfl (Nat.le_of_ble_eq_true rfl) (by decide +kernel) rfl ?_
  obtain ⟨t, hk⟩ : ∃ t, t = res := ⟨res, rfl⟩
  rw [← hk] at hf
  unfold f_Mo_left at hf
  refine Fx.run [(.iload_n 1, 1, 1, 0, .null)] 1 (by decide +kernel) ?_
  show Fx q_Mo_left 9 sh 1 [some (.ref c), some (.int v1), some (.int v2), some (.int v3), none, none, none] [.int v1] hp (some (.int res.2)) res.1
  replace hf := bnd hf
  obtain ⟨r1, hr1, hf⟩ := hf
  refine Fx.callS (rr := (some (.int r1))) (hp1 := hp) [.int v1] [] lk_9_52 (by decide +kernel) (t_Mo_isSide sh hp v1 r1 hr1) ⟨Nat.le_of_ble_eq_true rfl, Nat.le_of_ble_eq_true rfl⟩ rfl (Nat.le_of_ble_eq_true rfl) ?_
  show Fx q_Mo_left 9 sh 4 [some (.ref c), some (.int v1), some (.int v2), some (.int v3), none, none, none] [.int r1] hp (some (.int res.2)) res.1
  refine Fx.if_ne (6) 10 7 (by decide +kernel) (fun b2 => ?_) (fun b2 => ?_)
  · replace hf := ifn b2 hf
    refine Fx.run [(.iconst 0, 1, 0, 0, .int 0), (.istore 4, 2, 4, 0, .null), (.iconst 0, 1, 0, 0, .int 0), (.istore 5, 2, 5, 0, .null)] 16 (by decide +kernel) ?_
    show Fx q_Mo_left 9 sh 16 [some (.ref c), some (.int v1), some (.int v2), some (.int v3), some (.int 0), some (.int 0), none] [] hp (some (.int res.2)) res.1
    have hl := t_Mo_left_l16 sh c hS hp v1 v2 v3 res (hp, 0, 0) _ hf hk
    have hl : Fx q_Mo_left 9 sh 16 [some (.ref c), some (.int v1), some (.int v2), some (.int v3), some (.int 0), some (.int 0), none] [] hp (some (.int res.2)) res.1 := hl
    exact Fx.le hl (And.intro rfl (And.intro rfl (And.intro rfl (And.intro rfl (And.intro rfl (And.intro rfl trivial))))))
  · replace hf := ifp b2 hf
    refine Fx.run [(.ldc 79, 2, 0, 0, .int (-10000000))] 9 (by decide +kernel) ?_
    show Fx q_Mo_left 9 sh 9 [some (.ref c), some (.int v1), some (.int v2), some (.int v3), none, none, none] [.int (-10000000)] hp (some (.int res.2)) res.1
    obtain rfl := Option.some.inj hf
    have hk : (hp, (-10000000)) = res := hk
    subst hk
    exact Fx.iret (by decide +kernel) rfl
set_option maxHeartbeats 4000000 in
set_option maxRecDepth 20000 in
theorem t_Mo_isLive (sh : Shp) (c : Nat) (hS : S_Mo sh c) (hp : HP) (v1 : Int32) (v2 : Int32) (v3 : Int32) (res : Int32) (hf : f_Mo_isLive c hp v1 v2 v3 = some res) : Ex 4 q_Mo_isLive sh [.ref c, .int v1, .int v2, .int v3] hp (some (.int res)) hp := by
  refine Ex.of [some (.ref c), some (.int v1), some (.int v2), some (.int v3)] rfl (Nat.le_of_ble_eq_true rfl) (by decide +kernel) rfl ?_
  obtain ⟨t, hk⟩ : ∃ t, t = res := ⟨res, rfl⟩
  rw [← hk] at hf
  unfold f_Mo_isLive at hf
  refine Fx.run [(.aload_n 0, 1, 0, 0, .null), (.iload_n 1, 1, 1, 0, .null), (.iload_n 2, 1, 2, 0, .null)] 3 (by decide +kernel) ?_
  show Fx q_Mo_isLive 4 sh 3 [some (.ref c), some (.int v1), some (.int v2), some (.int v3)] [.int v2, .int v1, .ref c] hp (some (.int res)) hp
  replace hf := bnd hf
  obtain ⟨r1, hr1, hf⟩ := hf
  refine Fx.callV (rr := (some (.int r1))) (hp1 := hp) [.int v1, .int v2] [] lk_9_56 (by decide +kernel) (t_Mo_startOf sh c (hS) hp v1 v2 r1 hr1) ⟨Nat.le_of_ble_eq_true rfl, Nat.le_of_ble_eq_true rfl⟩ (hS).1 (by decide) rfl (Nat.le_of_ble_eq_true rfl) ?_
  show Fx q_Mo_isLive 4 sh 6 [some (.ref c), some (.int v1), some (.int v2), some (.int v3)] [.int r1] hp (some (.int res)) hp
  refine Fx.run [(.iload_n 3, 1, 3, 0, .null)] 7 (by decide +kernel) ?_
  show Fx q_Mo_isLive 4 sh 7 [some (.ref c), some (.int v1), some (.int v2), some (.int v3)] [.int v3, .int r1] hp (some (.int res)) hp
  refine Fx.icmp_gt (17) 24 10 (by decide +kernel) (fun b2 => ?_) (fun b2 => ?_)
  · replace hf := ifp b2 hf
    refine Fx.run [(.iconst 0, 1, 0, 0, .int 0)] 25 (by decide +kernel) ?_
    show Fx q_Mo_isLive 4 sh 25 [some (.ref c), some (.int v1), some (.int v2), some (.int v3)] [.int 0] hp (some (.int res)) hp
    obtain rfl := Option.some.inj hf
    have hk : 0 = res := hk
    subst hk
    exact Fx.zret (by decide +kernel) rfl (Or.inl rfl)
  · replace hf := ifn b2 hf
    refine Fx.run [(.iload_n 3, 1, 3, 0, .null), (.aload_n 0, 1, 0, 0, .null), (.iload_n 1, 1, 1, 0, .null), (.iload_n 2, 1, 2, 0, .null)] 14 (by decide +kernel) ?_
    show Fx q_Mo_isLive 4 sh 14 [some (.ref c), some (.int v1), some (.int v2), some (.int v3)] [.int v2, .int v1, .ref c, .int v3] hp (some (.int res)) hp
    replace hf := bnd hf
    obtain ⟨r3, hr3, hf⟩ := hf
    refine Fx.callV (rr := (some (.int r3))) (hp1 := hp) [.int v1, .int v2] [.int v3] lk_9_59 (by decide +kernel) (t_Mo_endOf sh c (hS) hp v1 v2 r3 hr3) ⟨Nat.le_of_ble_eq_true rfl, Nat.le_of_ble_eq_true rfl⟩ (hS).1 (by decide) rfl (Nat.le_of_ble_eq_true rfl) ?_
    show Fx q_Mo_isLive 4 sh 17 [some (.ref c), some (.int v1), some (.int v2), some (.int v3)] [.int r3, .int v3] hp (some (.int res)) hp
    refine Fx.icmp_ge (7) 24 20 (by decide +kernel) (fun b4 => ?_) (fun b4 => ?_)
    · replace hf := ifp b4 hf
      refine Fx.run [(.iconst 0, 1, 0, 0, .int 0)] 25 (by decide +kernel) ?_
      show Fx q_Mo_isLive 4 sh 25 [some (.ref c), some (.int v1), some (.int v2), some (.int v3)] [.int 0] hp (some (.int res)) hp
      obtain rfl := Option.some.inj hf
      have hk : 0 = res := hk
      subst hk
      exact Fx.zret (by decide +kernel) rfl (Or.inl rfl)
    · replace hf := ifn b4 hf
      refine Fx.run [(.iconst 1, 1, 0, 0, .int 1)] 21 (by decide +kernel) ?_
      show Fx q_Mo_isLive 4 sh 21 [some (.ref c), some (.int v1), some (.int v2), some (.int v3)] [.int 1] hp (some (.int res)) hp
      refine Fx.goto (4) 25 (by decide +kernel) ?_
      obtain rfl := Option.some.inj hf
      have hk : 1 = res := hk
      subst hk
      exact Fx.zret (by decide +kernel) rfl (Or.inr rfl)
