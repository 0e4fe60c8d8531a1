/-! the law's loop -/
set_option maxHeartbeats 400000 in
theorem len_lt {L i : Nat} (hL : L ≤ 3584) (hi : i ≤ L) (z : ¬ (Int32.ofNat L - 7 < nI i)) : i + 7 ≤ L := by
  rcases Nat.lt_or_ge L (i + 7) with y | y
  · refine absurd ?_ z
    rw [Int32.lt_iff_toInt_lt, nI_toInt (by omega)]
    have h1 : (Int32.ofNat L).toInt = (L : Int) := nI_toInt (n := L) (by omega)
    rw [Int32.toInt_sub, h1, show (7 : Int32).toInt = 7 by decide]
    rw [Int.bmod_eq_of_le (by omega) (by omega)]
    omega
  · exact y
section LP
variable {p : Program} {l : Launch} {e : Env} {R : Room} {s : State} {m : MethodId} {args : Array Value} {below : List Frame} {meth : Method} {c : Code} {H : Heap} {locs : List Loc} {cells slots : Nat} {Q : State → Prop} {ls : Array Slot} {pc : Nat} {st : List Value}
set_option maxHeartbeats 400000 in
theorem law_sw (hx : p.tables.exec = Jvm.exec) (hb : c.code = qL.2.1) {z : Int32} (k : Int32) (tgt : Nat) (hz : z = k) (hok : okW qL pc k tgt = true) (h : W p l e R s m args below meth c H locs cells slots Q (F0 m tgt ls st)) : W p l e R s m args below meth c H locs cells slots Q (F0 m pc ls (.int z :: st)) := by
  subst hz
  unfold okW at hok
  split at hok
  · rename_i dflt lo hi offs len hd
    simp only [Bool.and_eq_true, decide_eq_true_eq] at hok
    obtain ⟨h1, h2, h3⟩ := hok
    split at h3
    · rename_i off ho
      simp only [decide_eq_true_eq] at h3
      exact lv_tableIn hx hb hd h1 h2 ho h3 h
    · cases h3
  · rename_i dflt ps len hd
    simp only [Bool.and_eq_true, decide_eq_true_eq] at hok
    exact lv_lookup hx hb hd hok.1 rfl hok.2 h
  · cases hok
set_option maxHeartbeats 400000 in
theorem law_swD (hx : p.tables.exec = Jvm.exec) (hb : c.code = qL.2.1) {x : Int32} (ks : List Int32) (tgt : Nat) (hok : okD qL pc ks tgt = true) (hk : ∀ k ∈ ks, ¬ x = k) (h : W p l e R s m args below meth c H locs cells slots Q (F0 m tgt ls st)) : W p l e R s m args below meth c H locs cells slots Q (F0 m pc ls (.int x :: st)) := by
  unfold okD at hok
  split at hok
  · rename_i dflt lo hi offs len hd
    simp only [Bool.and_eq_true, decide_eq_true_eq] at hok
    have hout : x.toInt < lo ∨ hi < x.toInt := by
      by_cases h1 : x.toInt < lo
      · exact Or.inl h1
      · by_cases h2 : hi < x.toInt
        · exact Or.inr h2
        · have h3 := List.all_eq_true.mp hok.1 ((x.toInt - lo).toNat) (List.mem_range.mpr (by omega))
          obtain ⟨k, hk', he⟩ := List.any_eq_true.mp h3
          simp only [decide_eq_true_eq] at he
          exact absurd (Int32.toInt_inj.mp (by omega)) (hk k hk')
    exact lv_tableOut hx hb hd hout hok.2 h
  · rename_i dflt ps len hd
    simp only [Bool.and_eq_true, decide_eq_true_eq] at hok
    have ho : Op.lookupswitch.offset ps.toList dflt x.toInt = dflt := look_d _ (fun p hp e => by
      obtain ⟨k, hk', he⟩ := List.any_eq_true.mp (List.all_eq_true.mp hok.2.1 p hp)
      simp only [decide_eq_true_eq] at he
      exact hk k hk' (Int32.toInt_inj.mp (by omega)))
    exact lv_lookup hx hb hd hok.1 ho hok.2.2 h
  · cases hok
end LP
section LB
variable {p : Program} {l : Launch} {e : Env} {s : State} {m : MethodId} {below : List Frame} {meth : Method} {c : Code} {b L : Nat} {xs : Nat → Int32} {D : va_G} {cy : ClassId × ClassId} {ct : Nat} {H : Heap} {locs : List Loc} {cells slots : Nat} {Q : State → Prop} {ls : Array Slot} {i : Nat} {aX aK aM : Nat → Nat} {K : Bool} {vk : Value} {h kk mm : HP}
set_option maxHeartbeats 4000000 in
set_option maxRecDepth 10000 in
set_option maxHeartbeats 400000 in
/-- one round of the loop, from the switch on -/
theorem law_body (C : LCx p s m meth c b L xs D cy ct) (w : LWd D cy s K vk aX aK aM h kk mm H locs) (A : RA K kk h mm) (hl : LLs ls b aX aM i) (hL : L ≤ 3584) (hi : i + 7 ≤ L) (hc : cells + 31 ≤ room_1.cells ∧ slots + 2573 ≤ room_1.slots) (k : LKo p l e s m below meth c b D cy aX aM ls cells slots Q) (z : Int32) : W p l e room_1 s m #[Value.ref b] below meth c H locs cells slots Q (F0 m 33 ls [.int z]) := by
  by_cases z0 : z = 0
  · exact law_sw C.1.1 C.1.2.1 0 192 z0 (by decide +kernel) (lc_0 C w A hl hL hi hc k)
  by_cases z1 : z = 1
  · exact law_sw C.1.1 C.1.2.1 1 225 z1 (by decide +kernel) (lc_1 C w A hl hL hi hc k)
  by_cases z2 : z = 2
  · exact law_sw C.1.1 C.1.2.1 2 288 z2 (by decide +kernel) (lc_2 C w A hl hL hi hc k)
  by_cases z3 : z = 3
  · exact law_sw C.1.1 C.1.2.1 3 301 z3 (by decide +kernel) (lc_3 C w A hl hL hi hc k)
  by_cases z4 : z = 4
  · exact law_sw C.1.1 C.1.2.1 4 324 z4 (by decide +kernel) (lc_4 C w A hl hL hi hc k)
  by_cases z5 : z = 5
  · exact law_sw C.1.1 C.1.2.1 5 399 z5 (by decide +kernel) (lc_5 C w A hl hL hi hc k)
  by_cases z6 : z = 6
  · exact law_sw C.1.1 C.1.2.1 6 432 z6 (by decide +kernel) (lc_6 C w A hl hL hi hc k)
  by_cases z7 : z = 7
  · exact law_sw C.1.1 C.1.2.1 7 445 z7 (by decide +kernel) (lc_7 C w A hl hL hi hc k)
  by_cases z8 : z = 8
  · exact law_sw C.1.1 C.1.2.1 8 468 z8 (by decide +kernel) (lc_8 C w A hl hL hi hc k)
  by_cases z9 : z = 9
  · exact law_sw C.1.1 C.1.2.1 9 481 z9 (by decide +kernel) (lc_9 C w A hl hL hi hc k)
  by_cases z10 : z = 10
  · exact law_sw C.1.1 C.1.2.1 10 524 z10 (by decide +kernel) (lc_10 C w A hl hL hi hc k)
  by_cases z11 : z = 11
  · exact law_sw C.1.1 C.1.2.1 11 577 z11 (by decide +kernel) (lc_11 C w A hl hL hi hc k)
  by_cases z12 : z = 12
  · exact law_sw C.1.1 C.1.2.1 12 610 z12 (by decide +kernel) (lc_12 C w A hl hL hi hc k)
  by_cases z13 : z = 13
  · exact law_sw C.1.1 C.1.2.1 13 643 z13 (by decide +kernel) (lc_13 C w A hl hL hi hc k)
  by_cases z14 : z = 14
  · exact law_sw C.1.1 C.1.2.1 14 666 z14 (by decide +kernel) (lc_14 C w A hl hL hi hc k)
  by_cases z15 : z = 15
  · exact law_sw C.1.1 C.1.2.1 15 719 z15 (by decide +kernel) (lc_15 C w A hl hL hi hc k)
  by_cases z16 : z = 16
  · exact law_sw C.1.1 C.1.2.1 16 762 z16 (by decide +kernel) (lc_16 C w A hl hL hi hc k)
  by_cases z17 : z = 17
  · exact law_sw C.1.1 C.1.2.1 17 785 z17 (by decide +kernel) (lc_17 C w A hl hL hi hc k)
  by_cases z18 : z = 18
  · exact law_sw C.1.1 C.1.2.1 18 809 z18 (by decide +kernel) (lc_18 C w A hl hL hi hc k)
  by_cases z19 : z = 19
  · exact law_sw C.1.1 C.1.2.1 19 843 z19 (by decide +kernel) (lc_19 C w A hl hL hi hc k)
  by_cases z20 : z = 20
  · exact law_sw C.1.1 C.1.2.1 20 886 z20 (by decide +kernel) (lc_20 C w A hl hL hi hc k)
  by_cases z21 : z = 21
  · exact law_sw C.1.1 C.1.2.1 21 919 z21 (by decide +kernel) (lc_21 C w A hl hL hi hc k)
  by_cases z22 : z = 22
  · exact law_sw C.1.1 C.1.2.1 22 962 z22 (by decide +kernel) (lc_22 C w A hl hL hi hc k)
  by_cases z23 : z = 23
  · exact law_sw C.1.1 C.1.2.1 23 1005 z23 (by decide +kernel) (lc_23 C w A hl hL hi hc k)
  by_cases z24 : z = 24
  · exact law_sw C.1.1 C.1.2.1 24 1058 z24 (by decide +kernel) (lc_24 C w A hl hL hi hc k)
  by_cases z25 : z = 25
  · exact law_sw C.1.1 C.1.2.1 25 1091 z25 (by decide +kernel) (lc_25 C w A hl hL hi hc k)
  by_cases z26 : z = 26
  · exact law_sw C.1.1 C.1.2.1 26 1141 z26 (by decide +kernel) (lc_26 C w A hl hL hi hc k)
  by_cases z27 : z = 27
  · exact law_sw C.1.1 C.1.2.1 27 1174 z27 (by decide +kernel) (lc_27 C w A hl hL hi hc k)
  by_cases z28 : z = 28
  · exact law_sw C.1.1 C.1.2.1 28 1217 z28 (by decide +kernel) (lc_28 C w A hl hL hi hc k)
  by_cases z29 : z = 29
  · exact law_sw C.1.1 C.1.2.1 29 1240 z29 (by decide +kernel) (lc_29 C w A hl hL hi hc k)
  by_cases z30 : z = 30
  · exact law_sw C.1.1 C.1.2.1 30 1273 z30 (by decide +kernel) (lc_30 C w A hl hL hi hc k)
  by_cases z31 : z = 31
  · exact law_sw C.1.1 C.1.2.1 31 1316 z31 (by decide +kernel) (lc_31 C w A hl hL hi hc k)
  by_cases z32 : z = 32
  · exact law_sw C.1.1 C.1.2.1 32 1375 z32 (by decide +kernel) (lc_32 C w A hl hL hi hc k)
  by_cases z33 : z = 33
  · exact law_sw C.1.1 C.1.2.1 33 1388 z33 (by decide +kernel) (lc_33 C w A hl hL hi hc k)
  by_cases z34 : z = 34
  · exact law_sw C.1.1 C.1.2.1 34 1421 z34 (by decide +kernel) (lc_34 C w A hl hL hi hc k)
  by_cases z35 : z = 35
  · exact law_sw C.1.1 C.1.2.1 35 1460 z35 (by decide +kernel) (lc_35 C w A hl hL hi hc k)
  refine law_swD C.1.1 C.1.2.1 [0, 1, 2, 3, 4, 5, 6, 7, 8, 9, 10, 11, 12, 13, 14, 15, 16, 17, 18, 19, 20, 21, 22, 23, 24, 25, 26, 27, 28, 29, 30, 31, 32, 33, 34, 35] 1483 (by decide +kernel) (fun y hy => ?_) ?_
  · rcases List.mem_cons.mp hy with rfl | hy
    · exact z0
    rcases List.mem_cons.mp hy with rfl | hy
    · exact z1
    rcases List.mem_cons.mp hy with rfl | hy
    · exact z2
    rcases List.mem_cons.mp hy with rfl | hy
    · exact z3
    rcases List.mem_cons.mp hy with rfl | hy
    · exact z4
    rcases List.mem_cons.mp hy with rfl | hy
    · exact z5
    rcases List.mem_cons.mp hy with rfl | hy
    · exact z6
    rcases List.mem_cons.mp hy with rfl | hy
    · exact z7
    rcases List.mem_cons.mp hy with rfl | hy
    · exact z8
    rcases List.mem_cons.mp hy with rfl | hy
    · exact z9
    rcases List.mem_cons.mp hy with rfl | hy
    · exact z10
    rcases List.mem_cons.mp hy with rfl | hy
    · exact z11
    rcases List.mem_cons.mp hy with rfl | hy
    · exact z12
    rcases List.mem_cons.mp hy with rfl | hy
    · exact z13
    rcases List.mem_cons.mp hy with rfl | hy
    · exact z14
    rcases List.mem_cons.mp hy with rfl | hy
    · exact z15
    rcases List.mem_cons.mp hy with rfl | hy
    · exact z16
    rcases List.mem_cons.mp hy with rfl | hy
    · exact z17
    rcases List.mem_cons.mp hy with rfl | hy
    · exact z18
    rcases List.mem_cons.mp hy with rfl | hy
    · exact z19
    rcases List.mem_cons.mp hy with rfl | hy
    · exact z20
    rcases List.mem_cons.mp hy with rfl | hy
    · exact z21
    rcases List.mem_cons.mp hy with rfl | hy
    · exact z22
    rcases List.mem_cons.mp hy with rfl | hy
    · exact z23
    rcases List.mem_cons.mp hy with rfl | hy
    · exact z24
    rcases List.mem_cons.mp hy with rfl | hy
    · exact z25
    rcases List.mem_cons.mp hy with rfl | hy
    · exact z26
    rcases List.mem_cons.mp hy with rfl | hy
    · exact z27
    rcases List.mem_cons.mp hy with rfl | hy
    · exact z28
    rcases List.mem_cons.mp hy with rfl | hy
    · exact z29
    rcases List.mem_cons.mp hy with rfl | hy
    · exact z30
    rcases List.mem_cons.mp hy with rfl | hy
    · exact z31
    rcases List.mem_cons.mp hy with rfl | hy
    · exact z32
    rcases List.mem_cons.mp hy with rfl | hy
    · exact z33
    rcases List.mem_cons.mp hy with rfl | hy
    · exact z34
    rcases List.mem_cons.mp hy with rfl | hy
    · exact z35
    cases hy
  · exact W.widen (Nat.le_add_right _ _) (Nat.le_add_right _ _) (k K vk aK h kk mm H locs w A)
set_option maxHeartbeats 4000000 in
/-- the loop -/
theorem law_loop (C : LCx p s m meth c b L xs D cy ct) (hL : L ≤ 3584) : ∀ (n j : Nat), L < 7 * j + 7 * n → 7 * j ≤ L → ∀ (K : Bool) (vk : Value) (aK : Nat → Nat) (h kk mm : HP) (H : Heap) (locs : List Loc) (ls : Array Slot), LWd D cy s K vk aX aK aM h kk mm H locs → RA K kk h mm → LLs ls b aX aM (7 * j) → W p l e room_1 s m #[Value.ref b] below meth c H locs (53 + 31 * j) (13169 + 2573 * j) (lw_Z below #[Value.ref b] s) (F0 m 18 ls []) := by
  intro n
  induction n with
  | zero => intro j h1 h2; omega
  | succ n ih =>
    intro j h1 h2 K vk aK h kk mm H locs ls w A hl
    obtain ⟨hx, hb, hr, hml, hown, hts, hX, hbl, hlocks, hgv⟩ := id C.1
    have hbA : ¬ LA s b := Nat.not_le.mpr hbl
    refine lv_iload_n hx hb (show decode code 18 = .ok (.iload_n 3, 1) by decide +kernel) rfl (lv_at hl 3 rfl) ?_
    refine lv_aload_n hx hb (show decode code 19 = .ok (.aload_n 0, 1) by decide +kernel) rfl (lv_at hl 0 rfl) ?_
    refine va_slen hx hb hX hbl hbA w.2.2.2.2 (show decode code 20 = .ok (.arraylength, 1) by decide +kernel) ?_
    refine lv_bipush (v := 7) hx hb (show decode code 21 = .ok (.bipush 7, 2) by decide +kernel) rfl ?_
    refine lv_isub hx hb (show decode code 23 = .ok (.isub, 1) by decide +kernel) ?_
    refine lv_icmp_gt (tgt := 1489) hx hb (show decode code 24 = .ok (.if_icmp .gt 1465, 3) by decide +kernel) (by decide) (fun _ => ?_) (fun z => ?_)
    · refine va_forget (fun q hq => w.2.2.2.2.2.2 q hq) ?_
      refine W.widen (k := 600000) (n := 7302250) (by omega) (by omega) ?_
      refine lv_iconst (v := 1) hx hb (show decode code 1489 = .ok (.iconst 1, 1) by decide +kernel) rfl ?_
      exact lw_ret hx hb hr hlocks (show decode code 1490 = .ok (.ireturn, 1) by decide +kernel)
    · have hi : 7 * j + 7 ≤ L := len_lt hL h2 z
      refine lv_aload_n hx hb (show decode code 27 = .ok (.aload_n 0, 1) by decide +kernel) rfl (lv_at hl 0 rfl) ?_
      refine lv_iload_n hx hb (show decode code 28 = .ok (.iload_n 3, 1) by decide +kernel) rfl (lv_at hl 3 rfl) ?_
      refine va_sld hx hb hX hbl hbA w.2.2.2.2 (vp_in_nI (show 7 * j < L by omega) (by omega)) (show decode code 29 = .ok (.iaload, 1) by decide +kernel) ?_
      refine lv_bipush (v := 63) hx hb (show decode code 30 = .ok (.bipush 63, 2) by decide +kernel) rfl ?_
      refine lv_iand hx hb (show decode code 32 = .ok (.iand, 1) by decide +kernel) ?_
      have hc : 53 + 31 * j + 31 ≤ room_1.cells ∧ 13169 + 2573 * j + 2573 ≤ room_1.slots := by
        show 53 + 31 * j + 31 ≤ 600000 ∧ 13169 + 2573 * j + 2573 ≤ 7302250
        omega
      refine law_body C w A hl hL hi hc (fun K' vk' aK' h' kk' mm' H1 locs1 w1 A1 => ?_) _
      refine lv_iinc (v := nI (7 * (j + 1))) (lv' := [(3, .int (nI (7 * (j + 1)))), (0, .ref b), (1, .ref (aX 0)), (2, .ref (aM 0))]) hx hb (show decode code 1483 = .ok (.iinc 3 7, 3) by decide +kernel) hl (k := 3) rfl (nI_add (7 * j) 7) (by decide) rfl (fun ls1 hl1 => ?_)
      refine lv_goto (tgt := 18) hx hb (show decode code 1486 = .ok (.goto (-1468), 3) by decide +kernel) (by decide) ?_
      have e1 : 53 + 31 * j + 31 = 53 + 31 * (j + 1) := by omega
      have e2 : 13169 + 2573 * j + 2573 = 13169 + 2573 * (j + 1) := by omega
      rw [e1, e2]
      exact ih (j + 1) (by omega) (by omega) K' vk' aK' h' kk' mm' H1 locs1 ls1 w1 A1 (lv_sub hl1 [1, 2, 3, 0] rfl)
end LB
