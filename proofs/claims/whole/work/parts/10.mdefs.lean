noncomputable def f_Mo_isIn (v0 : Int32) (v1 : Int32) (v2 : Int32) : Option Int32 :=
  (if v0 < v1 then some 0 else (if v2 < v0 then some 0 else some 1))
noncomputable def f_Mo_has (v0 : Int32) (v1 : Int32) : Option Int32 :=
  (if ((v0 >>> (v1 &&& 31)) &&& 1) = 1 then some 1 else some 0)
noncomputable def f_Mo_less (v0 : Int32) (v1 : Int32) : Option Int32 :=
  (if v1 ≤ v0 then some v1 else some v0)
noncomputable def f_Mo_more (v0 : Int32) (v1 : Int32) : Option Int32 :=
  (if v0 ≤ v1 then some v1 else some v0)
noncomputable def f_Mo_at (c : Nat) (hp : HP) (v1 : Int32) (v2 : Int32) : Option Int32 :=
  some (4 + (5 * ((40 * v1) + v2)))
noncomputable def f_Mo_of (c : Nat) (hp : HP) (v1 : Int32) (v2 : Int32) (v3 : Int32) : Option Int32 :=
  ((f_Mo_at c hp v1 v2).bind fun r1 => (if inb (r1 + v3) 4100 then some (hp.1 (c + 1) (ix (r1 + v3))) else none))
noncomputable def f_Mo_startOf (c : Nat) (hp : HP) (v1 : Int32) (v2 : Int32) : Option Int32 :=
  ((f_Mo_of c hp v1 v2 2).bind fun r1 => some (2 * r1))
noncomputable def f_Mo_endOf (c : Nat) (hp : HP) (v1 : Int32) (v2 : Int32) : Option Int32 :=
  ((f_Mo_of c hp v1 v2 3).bind fun r1 => ((f_Mo_of c hp v1 v2 2).bind fun r2 => (if r1 = r2 then some ((2 * r1) + 1) else some ((2 * r1) + 0))))
noncomputable def f_Mo_longOf (c : Nat) (hp : HP) (v1 : Int32) (v2 : Int32) : Option Int32 :=
  ((f_Mo_of c hp v1 v2 3).bind fun r1 => ((f_Mo_of c hp v1 v2 2).bind fun r2 => some (r1 - r2)))
noncomputable def f_Mo_time (v0 : Int32) : Option Int32 :=
  some (v0 >>> (1 &&& 31))
noncomputable def f_Mo_isSide (v0 : Int32) : Option Int32 :=
  ((f_Mo_isIn v0 0 1).bind fun r1 => (if (r1 = 0 ∨ r1 = 1) then some r1 else none))
noncomputable def f_Mo_isRow (c : Nat) (hp : HP) (v1 : Int32) (v2 : Int32) : Option Int32 :=
  ((f_Mo_isSide v1).bind fun r1 => (if r1 = 0 then some 0 else (if inb (2 + v1) 4100 then ((f_Mo_isIn v2 0 ((hp.1 (c + 1) (ix (2 + v1))) - 1)).bind fun r4 => (if r4 = 0 then some 0 else some 1)) else none)))
noncomputable def f_Mo_isKey (v0 : Int32) : Option Int32 :=
  ((f_Mo_isIn v0 0 9).bind fun r1 => (if (r1 = 0 ∨ r1 = 1) then some r1 else none))
noncomputable def f_Mo_kindOf (v0 : Int32) (v1 : Int32) (v2 : Int32) (v3 : Int32) : Option Int32 :=
  (if v2 ≤ v1 then (if v1 = v2 then some 1 else (if v0 ≤ v3 then (if v3 = v0 then some 11 else (if v0 = v2 then (if v3 ≤ v1 then (if v1 = v3 then some 6 else some 9) else some 3) else (if v1 = v3 then (if v2 ≤ v0 then some 5 else some 7) else (if v2 ≤ v0 then (if v3 ≤ v1 then some 10 else some 4) else (if v3 ≤ v1 then some 8 else some 2))))) else some 12)) else some 0)
noncomputable def f_Mo_kindBetween (c : Nat) (hp : HP) (v1 : Int32) (v2 : Int32) (v3 : Int32) (v4 : Int32) : Option Int32 :=
  ((f_Mo_startOf c hp v1 v2).bind fun r1 => ((f_Mo_endOf c hp v1 v2).bind fun r2 => ((f_Mo_startOf c hp v3 v4).bind fun r3 => ((f_Mo_endOf c hp v3 v4).bind fun r4 => ((f_Mo_kindOf r1 r2 r3 r4).bind fun r5 => some r5)))))
noncomputable def f_Mo_doShare (c : Nat) (hp : HP) (v1 : Int32) (v2 : Int32) (v3 : Int32) : Option Int32 :=
  ((f_Mo_kindBetween c hp v1 v2 v1 v3).bind fun r1 => ((f_Mo_isIn r1 2 10).bind fun r2 => (if (r2 = 0 ∨ r2 = 1) then some r2 else none)))
noncomputable def f_Mo_isKeyed (c : Nat) (hp : HP) (v1 : Int32) (v2 : Int32) : Option Int32 :=
  (if (hp.1 (c + 1) (ix 0)) = 0 then some 1 else ((f_Mo_of c hp 0 v1 1).bind fun r2 => ((f_Mo_of c hp 1 v2 1).bind fun r3 => (if r2 = r3 then some 1 else some 0))))
noncomputable def f_Mo_arePartners (c : Nat) (hp : HP) (v1 : Int32) (v2 : Int32) : Option Int32 :=
  ((f_Mo_isKeyed c hp v1 v2).bind fun r1 => (if r1 = 0 then some 0 else ((f_Mo_kindBetween c hp 0 v1 1 v2).bind fun r3 => ((f_Mo_has (hp.1 (c + 1) (ix 1)) r3).bind fun r4 => (if r4 = 0 then some 0 else some 1)))))
noncomputable def f_Mo_isPartner (c : Nat) (hp : HP) (v1 : Int32) (v2 : Int32) (v3 : Int32) : Option Int32 :=
  (if v1 = 0 then ((f_Mo_arePartners c hp v2 v3).bind fun r4 => (if (r4 = 0 ∨ r4 = 1) then some r4 else none)) else ((f_Mo_arePartners c hp v3 v2).bind fun r2 => (if (r2 = 0 ∨ r2 = 1) then some r2 else none)))
noncomputable def f_Mo_causes (c : Nat) (hp : HP) (v1 : Int32) (v2 : Int32) : Option HP :=
  (if inb (606 + (2 * (hp.1 (c + 1) (ix 605)))) 4100 then if inb ((606 + (2 * ((upI hp (c + 1) (ix (606 + (2 * (hp.1 (c + 1) (ix 605))))) v1).1 (c + 1) (ix 605)))) + 1) 4100 then some (upI (upI (upI hp (c + 1) (ix (606 + (2 * (hp.1 (c + 1) (ix 605))))) v1) (c + 1) (ix ((606 + (2 * ((upI hp (c + 1) (ix (606 + (2 * (hp.1 (c + 1) (ix 605))))) v1).1 (c + 1) (ix 605)))) + 1)) v2) (c + 1) (ix 605) (((upI (upI hp (c + 1) (ix (606 + (2 * (hp.1 (c + 1) (ix 605))))) v1) (c + 1) (ix ((606 + (2 * ((upI hp (c + 1) (ix (606 + (2 * (hp.1 (c + 1) (ix 605))))) v1).1 (c + 1) (ix 605)))) + 1)) v2).1 (c + 1) (ix 605)) + 1)) else none else none)
noncomputable def f_Mo_trouble (c : Nat) (hp : HP) (v1 : Int32) (v2 : Int32) : Option Int32 :=
  (if v1 = (-1) then some (hp.1 (c + 1) (ix 605)) else ((f_Mo_isIn v1 0 ((hp.1 (c + 1) (ix 605)) - 1)).bind fun r2 => (if r2 = 0 then some (-10000000) else ((f_Mo_isIn v2 0 1).bind fun r4 => (if r4 = 0 then some (-10000000) else (if inb ((606 + (2 * v1)) + v2) 4100 then some (hp.1 (c + 1) (ix ((606 + (2 * v1)) + v2))) else none))))))
noncomputable def f_Mo_isSweeping (c : Nat) (hp : HP)  : Option Int32 :=
  (if (hp.1 (c + 1) (ix 614)) = 1 then some 1 else some 0)
noncomputable def f_Mo_set_j64 (c : Nat) (hp : HP) (v1 : Int32) (v3 : Int32)  : Option (HP × Int32) :=
  ((f_Mo_causes c hp 9 v1).bind fun h5 => (if v3 = 0 then some (h5, 0) else ((f_Mo_causes c h5 8 (h5.1 (c + 1) (ix 615))).bind fun h8 => some (h8, 0))))
noncomputable def f_Mo_set_j41 (c : Nat) (hp : HP) (v1 : Int32) (v2 : Int32) (s0 : Int32) : Option (HP × Int32) :=
  (if s0 = 0 then f_Mo_set_j64 c hp v1 s0  else ((f_Mo_isSweeping c hp).bind fun r9 => (if r9 = 0 then (if inb (0 + v1) 4100 then some ((upI hp (c + 1) (ix (0 + v1)) v2), 1) else none) else f_Mo_set_j64 c hp v1 s0 )))
noncomputable def f_Mo_set (c : Nat) (hp : HP) (v1 : Int32) (v2 : Int32) : Option (HP × Int32) :=
  (if v1 = 0 then ((f_Mo_isIn v2 0 1).bind fun r13 => f_Mo_set_j41 c (upI hp (c + 1) (ix 605) 0) v1 v2 r13) else (if v1 = 1 then (if (v2 &&& 2044) = v2 then f_Mo_set_j41 c (upI hp (c + 1) (ix 605) 0) v1 v2 1 else f_Mo_set_j41 c (upI hp (c + 1) (ix 605) 0) v1 v2 0) else f_Mo_set_j41 c (upI hp (c + 1) (ix 605) 0) v1 v2 0))
noncomputable def f_Mo_lays (c : Nat) (hp : HP) (v1 : Int32) (v2 : Int32) (v3 : Int32) (v4 : Int32) (v5 : Int32) (v6 : Int32) : Option HP :=
  (if inb (v1 + 0) 4100 then if inb (v1 + 1) 4100 then if inb (v1 + 2) 4100 then if inb (v1 + 3) 4100 then if inb (v1 + 4) 4100 then some (upI (upI (upI (upI (upI hp (c + 1) (ix (v1 + 0)) v2) (c + 1) (ix (v1 + 1)) v3) (c + 1) (ix (v1 + 2)) v4) (c + 1) (ix (v1 + 3)) v5) (c + 1) (ix (v1 + 4)) v6) else none else none else none else none else none)
noncomputable def f_Mo_batch (c : Nat) (hp : HP) (v1 : Int32) (v2 : Int32) (v3 : Int32) (v4 : Int32) (v5 : Int32) : Option (HP × Int32) :=
  (if (hp.1 (c + 1) (ix 404)) = 40 then some (hp, (-1)) else ((f_Mo_lays c hp (405 + (5 * (hp.1 (c + 1) (ix 404)))) v1 v2 v3 v4 v5).bind fun h3 => some ((upI h3 (c + 1) (ix 404) ((h3.1 (c + 1) (ix 404)) + 1)), ((upI h3 (c + 1) (ix 404) ((h3.1 (c + 1) (ix 404)) + 1)).1 (c + 1) (ix 404)))))
noncomputable def f_Mo_clear (c : Nat) (hp : HP)  : Option (HP × Int32) :=
  some ((upI hp (c + 1) (ix 404) 0), (hp.1 (c + 1) (ix 404)))
noncomputable def f_Mo_spanTrouble (v0 : Int32) (v1 : Int32) : Option Int32 :=
  ((f_Mo_isIn v0 (-1000000) 1000000).bind fun r1 => (if r1 = 0 then some 1 else ((f_Mo_isIn v1 (-1000000) 1000000).bind fun r3 => (if r3 = 0 then some 2 else (if v0 ≤ v1 then some 0 else some 3)))))
noncomputable def f_Mo_orderTrouble_b12 (c : Nat) (hp : HP) (v1 : Int32) (v2 : Int32) (v3 : Int32) (v4 : Int32) : Option ((Int32) ⊕ Int32) :=
  (if v4 < 0 then Option.map Sum.inr (some 0) else ((f_Mo_of c hp v1 v4 0).bind fun r3 => (if r3 = v2 then Option.map Sum.inr (((f_Mo_of c hp v1 v4 2).bind fun r5 => (if r5 ≤ v3 then some 0 else ((f_Mo_of c hp v1 v4 2).bind fun r7 => some (r7 - v3))))) else some (Sum.inl (v4 + (-1))))))
noncomputable def f_Mo_orderTrouble_l12 (c : Nat) (hp : HP) (v1 : Int32) (v2 : Int32) (v3 : Int32) (s : (Int32)) : Option Int32 :=
  loop (fun s : (Int32) => f_Mo_orderTrouble_b12 c hp v1 v2 v3 s) s
noncomputable def f_Mo_orderTrouble (c : Nat) (hp : HP) (v1 : Int32) (v2 : Int32) (v3 : Int32) : Option Int32 :=
  (if inb (2 + v1) 4100 then f_Mo_orderTrouble_l12 c hp v1 v2 v3 ((hp.1 (c + 1) (ix (2 + v1))) - 1) else none)
noncomputable def f_Mo_comes_j187 (c : Nat) (hp : HP)  (s0 : Int32) (s1 : Int32) (s2 : Nat) : Option (HP × Int32) :=
  ((f_Mo_causes s2 hp s1 s0).bind fun h20 => some (h20, 0))
noncomputable def f_Mo_comes_j74 (c : Nat) (hp : HP) (v1 : Int32) (v2 : Int32) (v3 : Int32) (v4 : Int32) (v5 : Int32) (v6 : Int32) (v7 : Int32) (s0 : Int32) : Option (HP × Int32) :=
  (if s0 = 0 then (if inb (2 + v1) 4100 then ((f_Mo_at c hp v1 (hp.1 (c + 1) (ix (2 + v1)))).bind fun r23 => ((f_Mo_lays c hp r23 v3 v4 v5 v6 v7).bind fun h25 => (if inb (2 + v1) 4100 then if inb (2 + v1) 4100 then some ((upI h25 (c + 1) (ix (2 + v1)) ((h25.1 (c + 1) (ix (2 + v1))) + 1)), 1) else none else none))) else none) else ((f_Mo_causes c hp 2 v2).bind fun h13 => (if s0 = 7 then f_Mo_comes_j187 c h13  40 s0 c else (if s0 = 3 then f_Mo_comes_j187 c h13  v3 s0 c else (if s0 = 4 then f_Mo_comes_j187 c h13  v4 s0 c else (if s0 = 5 then ((f_Mo_spanTrouble v5 v6).bind fun r21 => f_Mo_comes_j187 c h13  r21 s0 c) else ((f_Mo_orderTrouble c h13 v1 v3 v5).bind fun r18 => f_Mo_comes_j187 c h13  r18 s0 c)))))))
noncomputable def f_Mo_comes (c : Nat) (hp : HP) (v1 : Int32) (v2 : Int32) (v3 : Int32) (v4 : Int32) (v5 : Int32) (v6 : Int32) (v7 : Int32) : Option (HP × Int32) :=
  (if inb (2 + v1) 4100 then (if (hp.1 (c + 1) (ix (2 + v1))) = 40 then f_Mo_comes_j74 c hp v1 v2 v3 v4 v5 v6 v7 7 else ((f_Mo_isIn v3 0 3).bind fun r3 => (if r3 = 0 then f_Mo_comes_j74 c hp v1 v2 v3 v4 v5 v6 v7 3 else ((f_Mo_isKey v4).bind fun r5 => (if r5 = 0 then f_Mo_comes_j74 c hp v1 v2 v3 v4 v5 v6 v7 4 else ((f_Mo_spanTrouble v5 v6).bind fun r7 => (if r7 ≤ 0 then ((f_Mo_orderTrouble c hp v1 v3 v5).bind fun r9 => (if r9 ≤ 0 then f_Mo_comes_j74 c hp v1 v2 v3 v4 v5 v6 v7 0 else f_Mo_comes_j74 c hp v1 v2 v3 v4 v5 v6 v7 6)) else f_Mo_comes_j74 c hp v1 v2 v3 v4 v5 v6 v7 5))))))) else none)
noncomputable def f_Mo_load_b79 (c : Nat) (hp : HP) (v1 : Int32) (v2 : Int32) (v3 : Int32) : Option ((HP × Int32) ⊕ (HP × Int32)) :=
  (if (hp.1 (c + 1) (ix 404)) ≤ v3 then Option.map Sum.inr (((f_Mo_clear c (upI hp (c + 1) (ix 605) 0)).bind fun p_r9 => some (p_r9.1, p_r9.2))) else (if inb ((405 + (5 * v3)) + 0) 4100 then if inb ((405 + (5 * v3)) + 1) 4100 then if inb ((405 + (5 * v3)) + 2) 4100 then if inb ((405 + (5 * v3)) + 3) 4100 then if inb ((405 + (5 * v3)) + 4) 4100 then ((f_Mo_comes c hp v1 v3 (hp.1 (c + 1) (ix ((405 + (5 * v3)) + 0))) (hp.1 (c + 1) (ix ((405 + (5 * v3)) + 1))) (hp.1 (c + 1) (ix ((405 + (5 * v3)) + 2))) (hp.1 (c + 1) (ix ((405 + (5 * v3)) + 3))) (hp.1 (c + 1) (ix ((405 + (5 * v3)) + 4)))).bind fun p_r16 => (if p_r16.2 = 0 then Option.map Sum.inr ((if inb (2 + v1) 4100 then some ((upI p_r16.1 (c + 1) (ix (2 + v1)) v2), (-1)) else none)) else some (Sum.inl (p_r16.1, (v3 + 1))))) else none else none else none else none else none))
noncomputable def f_Mo_load_l79 (c : Nat) (hp : HP) (v1 : Int32) (v2 : Int32) (s : (HP × Int32)) : Option (HP × Int32) :=
  loop (fun s : (HP × Int32) => f_Mo_load_b79 c s.1 v1 v2 s.2) s
noncomputable def f_Mo_load (c : Nat) (hp : HP) (v1 : Int32) : Option (HP × Int32) :=
  ((f_Mo_isSide v1).bind fun r1 => (if r1 = 0 then some ((upI hp (c + 1) (ix 605) 0), (-2)) else ((f_Mo_isSweeping c (upI hp (c + 1) (ix 605) 0)).bind fun r3 => (if r3 = 0 then (if inb (2 + v1) 4100 then ((f_Mo_causes c (upI hp (c + 1) (ix 605) 0) 1 ((upI hp (c + 1) (ix 605) 0).1 (c + 1) (ix 404))).bind fun h7 => f_Mo_load_l79 c h7 v1 ((upI hp (c + 1) (ix 605) 0).1 (c + 1) (ix (2 + v1))) (h7, 0)) else none) else ((f_Mo_causes c (upI hp (c + 1) (ix 605) 0) 1 ((upI hp (c + 1) (ix 605) 0).1 (c + 1) (ix 404))).bind fun h21 => ((f_Mo_causes c h21 8 (h21.1 (c + 1) (ix 615))).bind fun h23 => some (h23, (-1))))))))
noncomputable def f_Mo_add (c : Nat) (hp : HP) (v1 : Int32) (v2 : Int32) (v3 : Int32) (v4 : Int32) (v5 : Int32) (v6 : Int32) : Option (HP × Int32) :=
  ((f_Mo_isSide v1).bind fun r1 => (if r1 = 0 then some ((upI hp (c + 1) (ix 605) 0), (-2)) else ((f_Mo_isSweeping c (upI hp (c + 1) (ix 605) 0)).bind fun r3 => (if r3 = 0 then ((f_Mo_comes c (upI hp (c + 1) (ix 605) 0) v1 0 v2 v3 v4 v5 v6).bind fun p_r5 => (if p_r5.2 = 0 then some (p_r5.1, (-1)) else (if inb (2 + v1) 4100 then some (p_r5.1, ((p_r5.1.1 (c + 1) (ix (2 + v1))) - 1)) else none))) else ((f_Mo_causes c (upI hp (c + 1) (ix 605) 0) 8 ((upI hp (c + 1) (ix 605) 0).1 (c + 1) (ix 615))).bind fun h10 => some (h10, (-1)))))))
noncomputable def f_Mo_event (v0 : Int32) (v1 : Int32) (v2 : Int32) : Option Int32 :=
  some ((2 * ((40 * v0) + v1)) + v2)
noncomputable def f_Mo_sideOf (v0 : Int32) : Option Int32 :=
  some ((v0 / 2) / 40)
noncomputable def f_Mo_rowOf (v0 : Int32) : Option Int32 :=
  some ((v0 / 2) - (v0 / 2) / 40 * 40)
noncomputable def f_Mo_isStart (v0 : Int32) : Option Int32 :=
  (if (v0 - v0 / 2 * 2) = 1 then some 1 else some 0)
noncomputable def f_Mo_placeOf (c : Nat) (hp : HP) (v1 : Int32) : Option Int32 :=
  ((f_Mo_isStart v1).bind fun r1 => (if r1 = 0 then ((f_Mo_sideOf v1).bind fun r3 => ((f_Mo_rowOf v1).bind fun r4 => ((f_Mo_endOf c hp r3 r4).bind fun r5 => some r5))) else ((f_Mo_sideOf v1).bind fun r6 => ((f_Mo_rowOf v1).bind fun r7 => ((f_Mo_startOf c hp r6 r7).bind fun r8 => some r8)))))
noncomputable def f_Mo_isAhead (c : Nat) (hp : HP) (v1 : Int32) (v2 : Int32) : Option Int32 :=
  ((f_Mo_placeOf c hp v1).bind fun r1 => ((f_Mo_placeOf c hp v2).bind fun r2 => (if r1 = r2 then ((f_Mo_isStart v1).bind fun r4 => ((f_Mo_isStart v2).bind fun r5 => (if r4 = r5 then (if (v2 / 2) ≤ (v1 / 2) then some 0 else some 1) else ((f_Mo_isStart v2).bind fun r8 => (if (r8 = 0 ∨ r8 = 1) then some r8 else none))))) else ((f_Mo_placeOf c hp v1).bind fun r10 => ((f_Mo_placeOf c hp v2).bind fun r11 => (if r11 ≤ r10 then some 0 else some 1))))))
noncomputable def f_Mo_enters_b21 (c : Nat) (hp : HP) (v1 : Int32) (v2 : Int32) : Option ((HP × Int32) ⊕ HP) :=
  (if v2 ≤ 0 then Option.map Sum.inr ((if inb (621 + v2) 4100 then some (upI hp (c + 1) (ix (621 + v2)) v1) else none)) else (if inb ((621 + v2) - 1) 4100 then ((f_Mo_isAhead c hp v1 (hp.1 (c + 1) (ix ((621 + v2) - 1)))).bind fun r4 => (if r4 = 0 then Option.map Sum.inr ((if inb (621 + v2) 4100 then some (upI hp (c + 1) (ix (621 + v2)) v1) else none)) else (if inb ((621 + v2) - 1) 4100 then if inb (621 + v2) 4100 then some (Sum.inl ((upI hp (c + 1) (ix (621 + v2)) (hp.1 (c + 1) (ix ((621 + v2) - 1)))), (v2 + (-1)))) else none else none))) else none))
noncomputable def f_Mo_enters_l21 (c : Nat) (hp : HP) (v1 : Int32) (s : (HP × Int32)) : Option HP :=
  loop (fun s : (HP × Int32) => f_Mo_enters_b21 c s.1 v1 s.2) s
noncomputable def f_Mo_enters (c : Nat) (hp : HP) (v1 : Int32) : Option HP :=
  f_Mo_enters_l21 c (upI hp (c + 1) (ix 616) ((hp.1 (c + 1) (ix 616)) + 1)) v1 ((upI hp (c + 1) (ix 616) ((hp.1 (c + 1) (ix 616)) + 1)), (hp.1 (c + 1) (ix 616)))
noncomputable def f_Mo_heads_b76 (c : Nat) (hp : HP) (v1 : Int32) (v2 : Int32) (v3 : Int32) : Option ((Int32 × Int32) ⊕ Int32) :=
  (if 8 ≤ v3 then Option.map Sum.inr (some v2) else some (Sum.inl ((v2 + ((v1 >>> (v3 &&& 31)) &&& 1)), (v3 + 1))))
noncomputable def f_Mo_heads_l76 (c : Nat) (hp : HP) (v1 : Int32) (s : (Int32 × Int32)) : Option Int32 :=
  loop (fun s : (Int32 × Int32) => f_Mo_heads_b76 c hp v1 s.1 s.2) s
noncomputable def f_Mo_heads_b11 (c : Nat) (hp : HP)  (v1 : Int32) (v2 : Int32) : Option ((Int32 × Int32) ⊕ Int32) :=
  (if (hp.1 (c + 1) (ix 616)) ≤ v2 then Option.map Sum.inr (f_Mo_heads_l76 c hp v1 (0, 0)) else (if inb (621 + v2) 4100 then ((f_Mo_isStart (hp.1 (c + 1) (ix (621 + v2)))).bind fun r4 => (if r4 = 0 then some (Sum.inl (v1, (v2 + 1))) else ((f_Mo_sideOf (hp.1 (c + 1) (ix (621 + v2)))).bind fun r6 => ((f_Mo_sideOf (hp.1 (c + 1) (ix (621 + v2)))).bind fun r7 => ((f_Mo_rowOf (hp.1 (c + 1) (ix (621 + v2)))).bind fun r8 => ((f_Mo_of c hp r7 r8 0).bind fun r9 => some (Sum.inl ((v1 ||| (1 <<< (((4 * r6) + r9) &&& 31))), (v2 + 1))))))))) else none))
noncomputable def f_Mo_heads_l11 (c : Nat) (hp : HP)  (s : (Int32 × Int32)) : Option Int32 :=
  loop (fun s : (Int32 × Int32) => f_Mo_heads_b11 c hp  s.1 s.2) s
noncomputable def f_Mo_heads (c : Nat) (hp : HP)  : Option Int32 :=
  f_Mo_heads_l11 c hp  (0, (hp.1 (c + 1) (ix 615)))
noncomputable def f_Mo_actives (c : Nat) (hp : HP)  : Option Int32 :=
  some ((hp.1 (c + 1) (ix 781)) + (hp.1 (c + 1) (ix 782)))
noncomputable def f_Mo_looksAtHeld (c : Nat) (hp : HP)  : Option HP :=
  ((f_Mo_actives c hp).bind fun r1 => ((f_Mo_heads c hp).bind fun r2 => ((f_Mo_more (hp.1 (c + 1) (ix 617)) (r1 + r2)).bind fun r3 => ((f_Mo_actives c (upI hp (c + 1) (ix 617) r3)).bind fun r4 => ((f_Mo_more ((upI hp (c + 1) (ix 617) r3).1 (c + 1) (ix 618)) r4).bind fun r5 => some (upI (upI hp (c + 1) (ix 617) r3) (c + 1) (ix 618) r5))))))
noncomputable def f_Mo_sweep_b85 (c : Nat) (hp : HP) (v1 : Int32) (v2 : Int32) : Option ((HP × Int32) ⊕ ((HP × Int32) ⊕ (HP × Int32))) :=
  (if inb (2 + v1) 4100 then (if (hp.1 (c + 1) (ix (2 + v1))) ≤ v2 then Option.map Sum.inr (some (Sum.inl (hp, (v1 + 1)))) else ((f_Mo_event v1 v2 1).bind fun r11 => ((f_Mo_enters c hp r11).bind fun h13 => ((f_Mo_event v1 v2 0).bind fun r14 => ((f_Mo_enters c h13 r14).bind fun h16 => some (Sum.inl (h16, (v2 + 1)))))))) else none)
noncomputable def f_Mo_sweep_l85 (c : Nat) (hp : HP) (v1 : Int32) (s : (HP × Int32)) : Option ((HP × Int32) ⊕ (HP × Int32)) :=
  loop (fun s : (HP × Int32) => f_Mo_sweep_b85 c s.1 v1 s.2) s
noncomputable def f_Mo_sweep_b67 (c : Nat) (hp : HP)  (v1 : Int32) : Option ((HP × Int32) ⊕ (HP × Int32)) :=
  (if 2 ≤ v1 then Option.map Sum.inr (((f_Mo_looksAtHeld c hp).bind fun h6 => (if (h6.1 (c + 1) (ix 616)) ≤ 0 then some ((upI h6 (c + 1) (ix 614) 0), ((upI h6 (c + 1) (ix 614) 0).1 (c + 1) (ix 616))) else some ((upI h6 (c + 1) (ix 614) 1), ((upI h6 (c + 1) (ix 614) 1).1 (c + 1) (ix 616)))))) else (if inb (781 + v1) 4100 then f_Mo_sweep_l85 c (upI hp (c + 1) (ix (781 + v1)) 0) v1 ((upI hp (c + 1) (ix (781 + v1)) 0), 0) else none))
noncomputable def f_Mo_sweep_l67 (c : Nat) (hp : HP)  (s : (HP × Int32)) : Option (HP × Int32) :=
  loop (fun s : (HP × Int32) => f_Mo_sweep_b67 c s.1  s.2) s
noncomputable def f_Mo_sweep_b36 (c : Nat) (hp : HP)  (v1 : Int32) : Option ((HP × Int32) ⊕ (HP × Int32)) :=
  (if 620 < v1 then Option.map Sum.inr (f_Mo_sweep_l67 c (upI hp (c + 1) (ix 863) 0)  ((upI hp (c + 1) (ix 863) 0), 0)) else (if inb v1 4100 then some (Sum.inl ((upI hp (c + 1) (ix v1) 0), (v1 + 1))) else none))
noncomputable def f_Mo_sweep_l36 (c : Nat) (hp : HP)  (s : (HP × Int32)) : Option (HP × Int32) :=
  loop (fun s : (HP × Int32) => f_Mo_sweep_b36 c s.1  s.2) s
noncomputable def f_Mo_sweep (c : Nat) (hp : HP)  : Option (HP × Int32) :=
  ((f_Mo_isSweeping c (upI hp (c + 1) (ix 605) 0)).bind fun r1 => (if r1 = 0 then f_Mo_sweep_l36 c (upI hp (c + 1) (ix 605) 0)  ((upI hp (c + 1) (ix 605) 0), 615) else ((f_Mo_causes c (upI hp (c + 1) (ix 605) 0) 8 ((upI hp (c + 1) (ix 605) 0).1 (c + 1) (ix 615))).bind fun h19 => some (h19, (-1)))))
noncomputable def f_Mo_activeAt (c : Nat) (hp : HP) (v1 : Int32) (v2 : Int32) : Option Int32 :=
  some ((783 + (40 * v1)) + v2)
noncomputable def f_Mo_starts_j109 (c : Nat) (hp : HP) (v1 : Int32) (v2 : Int32) (v3 : Int32) (v4 : Int32) (s0 : Int32) (s1 : Int32) (s2 : Nat) : Option ((HP × Int32) ⊕ HP) :=
  (if inb s1 4100 then some (Sum.inl ((upI (upI hp s2 (ix s1) s0) (c + 1) (ix 863) (((upI hp s2 (ix s1) s0).1 (c + 1) (ix 863)) + 1)), (v4 + 1))) else none)
noncomputable def f_Mo_starts_j78 (c : Nat) (hp : HP) (v1 : Int32) (v2 : Int32) (v3 : Int32) (v4 : Int32) (v5 : Int32) (s0 : Int32) (s1 : Int32) (s2 : Nat) : Option ((HP × Int32) ⊕ HP) :=
  (if inb s1 4100 then (if v1 = 0 then f_Mo_starts_j109 c (upI hp s2 (ix s1) s0) v1 v2 v3 v4 v5 ((864 + (2 * ((upI hp s2 (ix s1) s0).1 (c + 1) (ix 863)))) + 1) (c + 1) else f_Mo_starts_j109 c (upI hp s2 (ix s1) s0) v1 v2 v3 v4 v2 ((864 + (2 * ((upI hp s2 (ix s1) s0).1 (c + 1) (ix 863)))) + 1) (c + 1)) else none)
noncomputable def f_Mo_starts_b7 (c : Nat) (hp : HP) (v1 : Int32) (v2 : Int32) (v3 : Int32) (v4 : Int32) : Option ((HP × Int32) ⊕ HP) :=
  (if inb (781 + v3) 4100 then (if (hp.1 (c + 1) (ix (781 + v3))) ≤ v4 then Option.map Sum.inr ((if inb (781 + v1) 4100 then ((f_Mo_activeAt c hp v1 (hp.1 (c + 1) (ix (781 + v1)))).bind fun r4 => (if inb r4 4100 then if inb (781 + v1) 4100 then if inb (781 + v1) 4100 then some (upI (upI hp (c + 1) (ix r4) v2) (c + 1) (ix (781 + v1)) (((upI hp (c + 1) (ix r4) v2).1 (c + 1) (ix (781 + v1))) + 1)) else none else none else none)) else none)) else ((f_Mo_activeAt c hp v3 v4).bind fun r8 => (if inb r8 4100 then ((f_Mo_isPartner c hp v1 v2 (hp.1 (c + 1) (ix r8))).bind fun r10 => (if r10 = 0 then some (Sum.inl (hp, (v4 + 1))) else (if v1 = 0 then f_Mo_starts_j78 c hp v1 v2 v3 v4 (hp.1 (c + 1) (ix r8)) v2 (864 + (2 * (hp.1 (c + 1) (ix 863)))) (c + 1) else f_Mo_starts_j78 c hp v1 v2 v3 v4 (hp.1 (c + 1) (ix r8)) (hp.1 (c + 1) (ix r8)) (864 + (2 * (hp.1 (c + 1) (ix 863)))) (c + 1)))) else none))) else none)
noncomputable def f_Mo_starts_l7 (c : Nat) (hp : HP) (v1 : Int32) (v2 : Int32) (v3 : Int32) (s : (HP × Int32)) : Option HP :=
  loop (fun s : (HP × Int32) => f_Mo_starts_b7 c s.1 v1 v2 v3 s.2) s
noncomputable def f_Mo_starts (c : Nat) (hp : HP) (v1 : Int32) (v2 : Int32) : Option HP :=
  f_Mo_starts_l7 c hp v1 v2 (1 - v1) (hp, 0)
noncomputable def f_Mo_ends_b28 (c : Nat) (hp : HP) (v1 : Int32) (v2 : Int32) (v3 : Int32) (v4 : Int32) : Option ((Int32) ⊕ HP) :=
  ((f_Mo_activeAt c hp v1 v4).bind fun r4 => (if inb r4 4100 then (if (hp.1 (c + 1) (ix r4)) = v2 then Option.map Sum.inr ((if v4 = v3 then some hp else ((f_Mo_activeAt c hp v1 v4).bind fun r8 => ((f_Mo_activeAt c hp v1 v3).bind fun r9 => (if inb r9 4100 then if inb r8 4100 then some (upI (upI hp (c + 1) (ix r8) (hp.1 (c + 1) (ix r9))) (c + 1) (ix 619) (((upI hp (c + 1) (ix r8) (hp.1 (c + 1) (ix r9))).1 (c + 1) (ix 619)) + 1)) else none else none))))) else some (Sum.inl (v4 + 1))) else none))
noncomputable def f_Mo_ends_l28 (c : Nat) (hp : HP) (v1 : Int32) (v2 : Int32) (v3 : Int32) (s : (Int32)) : Option HP :=
  loop (fun s : (Int32) => f_Mo_ends_b28 c hp v1 v2 v3 s) s
noncomputable def f_Mo_ends (c : Nat) (hp : HP) (v1 : Int32) (v2 : Int32) : Option HP :=
  (if inb (781 + v1) 4100 then if inb (781 + v1) 4100 then if inb (781 + v1) 4100 then f_Mo_ends_l28 c (upI hp (c + 1) (ix (781 + v1)) ((hp.1 (c + 1) (ix (781 + v1))) - 1)) v1 v2 ((upI hp (c + 1) (ix (781 + v1)) ((hp.1 (c + 1) (ix (781 + v1))) - 1)).1 (c + 1) (ix (781 + v1))) 0 else none else none else none)
noncomputable def f_Mo_goes_j77 (c : Nat) (hp : HP)   : Option HP :=
  ((f_Mo_looksAtHeld c hp).bind fun h10 => (if (h10.1 (c + 1) (ix 615)) = (h10.1 (c + 1) (ix 616)) then some (upI h10 (c + 1) (ix 614) 0) else some h10))
noncomputable def f_Mo_goes (c : Nat) (hp : HP)  : Option HP :=
  (if inb (621 + (hp.1 (c + 1) (ix 615))) 4100 then ((f_Mo_placeOf c (upI hp (c + 1) (ix 615) ((hp.1 (c + 1) (ix 615)) + 1)) (hp.1 (c + 1) (ix (621 + (hp.1 (c + 1) (ix 615)))))).bind fun r2 => ((f_Mo_isStart (hp.1 (c + 1) (ix (621 + (hp.1 (c + 1) (ix 615)))))).bind fun r3 => (if r3 = 0 then ((f_Mo_sideOf (hp.1 (c + 1) (ix (621 + (hp.1 (c + 1) (ix 615)))))).bind fun r5 => ((f_Mo_rowOf (hp.1 (c + 1) (ix (621 + (hp.1 (c + 1) (ix 615)))))).bind fun r6 => ((f_Mo_ends c (upI (upI hp (c + 1) (ix 615) ((hp.1 (c + 1) (ix 615)) + 1)) (c + 1) (ix 620) r2) r5 r6).bind fun h8 => f_Mo_goes_j77 c h8  ))) else ((f_Mo_sideOf (hp.1 (c + 1) (ix (621 + (hp.1 (c + 1) (ix 615)))))).bind fun r12 => ((f_Mo_rowOf (hp.1 (c + 1) (ix (621 + (hp.1 (c + 1) (ix 615)))))).bind fun r13 => ((f_Mo_starts c (upI (upI hp (c + 1) (ix 615) ((hp.1 (c + 1) (ix 615)) + 1)) (c + 1) (ix 620) r2) r12 r13).bind fun h15 => f_Mo_goes_j77 c h15  )))))) else none)
noncomputable def f_Mo_step_b22 (c : Nat) (hp : HP) (v1 : Int32) (v2 : Int32) : Option ((HP × Int32) ⊕ (HP × Int32)) :=
  (if v1 ≤ v2 then Option.map Sum.inr (some (hp, v2)) else ((f_Mo_isSweeping c hp).bind fun r6 => (if r6 = 0 then Option.map Sum.inr (some (hp, v2)) else ((f_Mo_goes c hp).bind fun h9 => some (Sum.inl (h9, (v2 + 1)))))))
noncomputable def f_Mo_step_l22 (c : Nat) (hp : HP) (v1 : Int32) (s : (HP × Int32)) : Option (HP × Int32) :=
  loop (fun s : (HP × Int32) => f_Mo_step_b22 c s.1 v1 s.2) s
noncomputable def f_Mo_step (c : Nat) (hp : HP) (v1 : Int32) : Option (HP × Int32) :=
  ((f_Mo_isIn v1 1 160).bind fun r1 => (if r1 = 0 then some (hp, (-1)) else ((f_Mo_isSweeping c hp).bind fun r3 => (if r3 = 0 then some (hp, (-1)) else f_Mo_step_l22 c hp v1 (hp, 0)))))
noncomputable def f_Mo_leave (c : Nat) (hp : HP)  : Option (HP × Int32) :=
  ((f_Mo_isSweeping c hp).bind fun r1 => (if (r1 = 0 ∨ r1 = 1) then some ((upI hp (c + 1) (ix 614) 0), r1) else none))
noncomputable def f_Mo_active (c : Nat) (hp : HP) (v1 : Int32) (v2 : Int32) : Option Int32 :=
  ((f_Mo_isSide v1).bind fun r1 => (if r1 = 0 then some (-1) else (if v2 = (-1) then (if inb (781 + v1) 4100 then some (hp.1 (c + 1) (ix (781 + v1))) else none) else (if inb (781 + v1) 4100 then ((f_Mo_isIn v2 0 ((hp.1 (c + 1) (ix (781 + v1))) - 1)).bind fun r5 => (if r5 = 0 then some (-1) else ((f_Mo_activeAt c hp v1 v2).bind fun r7 => (if inb r7 4100 then some (hp.1 (c + 1) (ix r7)) else none)))) else none))))
noncomputable def f_Mo_sharedFrom (c : Nat) (hp : HP) (v1 : Int32) (v2 : Int32) : Option Int32 :=
  ((f_Mo_startOf c hp 0 v1).bind fun r1 => ((f_Mo_startOf c hp 1 v2).bind fun r2 => ((f_Mo_more r1 r2).bind fun r3 => some r3)))
noncomputable def f_Mo_sharedTo (c : Nat) (hp : HP) (v1 : Int32) (v2 : Int32) : Option Int32 :=
  ((f_Mo_endOf c hp 0 v1).bind fun r1 => ((f_Mo_endOf c hp 1 v2).bind fun r2 => ((f_Mo_less r1 r2).bind fun r3 => some r3)))
noncomputable def f_Mo_sharedLong (c : Nat) (hp : HP) (v1 : Int32) (v2 : Int32) : Option Int32 :=
  ((f_Mo_sharedTo c hp v1 v2).bind fun r1 => ((f_Mo_time r1).bind fun r2 => ((f_Mo_sharedFrom c hp v1 v2).bind fun r3 => ((f_Mo_time r3).bind fun r4 => some (r2 - r4)))))
noncomputable def f_Mo_pair (c : Nat) (hp : HP) (v1 : Int32) (v2 : Int32) : Option Int32 :=
  (if v1 = (-1) then some (hp.1 (c + 1) (ix 863)) else ((f_Mo_isIn v1 0 ((hp.1 (c + 1) (ix 863)) - 1)).bind fun r2 => (if r2 = 0 then some (-10000000) else (if inb (864 + (2 * v1)) 4100 then if inb ((864 + (2 * v1)) + 1) 4100 then (if v2 = 0 then some (hp.1 (c + 1) (ix (864 + (2 * v1)))) else (if v2 = 1 then some (hp.1 (c + 1) (ix ((864 + (2 * v1)) + 1))) else (if v2 = 2 then ((f_Mo_kindBetween c hp 0 (hp.1 (c + 1) (ix (864 + (2 * v1)))) 1 (hp.1 (c + 1) (ix ((864 + (2 * v1)) + 1)))).bind fun r6 => some r6) else (if v2 = 3 then ((f_Mo_sharedFrom c hp (hp.1 (c + 1) (ix (864 + (2 * v1)))) (hp.1 (c + 1) (ix ((864 + (2 * v1)) + 1)))).bind fun r7 => ((f_Mo_time r7).bind fun r8 => some r8)) else (if v2 = 4 then ((f_Mo_sharedTo c hp (hp.1 (c + 1) (ix (864 + (2 * v1)))) (hp.1 (c + 1) (ix ((864 + (2 * v1)) + 1)))).bind fun r9 => ((f_Mo_time r9).bind fun r10 => some r10)) else (if v2 = 5 then ((f_Mo_sharedLong c hp (hp.1 (c + 1) (ix (864 + (2 * v1)))) (hp.1 (c + 1) (ix ((864 + (2 * v1)) + 1)))).bind fun r11 => some r11) else some (-10000000))))))) else none else none))))
noncomputable def f_Mo_swept (c : Nat) (hp : HP) (v1 : Int32) : Option Int32 :=
  (if v1 = 0 then some (hp.1 (c + 1) (ix 615)) else (if v1 = 1 then some ((hp.1 (c + 1) (ix 616)) - (hp.1 (c + 1) (ix 615))) else (if v1 = 2 then ((f_Mo_heads c hp).bind fun r1 => some r1) else (if v1 = 3 then ((f_Mo_actives c hp).bind fun r2 => ((f_Mo_heads c hp).bind fun r3 => some (r2 + r3))) else (if v1 = 4 then some (hp.1 (c + 1) (ix 617)) else (if v1 = 5 then some (hp.1 (c + 1) (ix 618)) else (if v1 = 6 then some (hp.1 (c + 1) (ix 619)) else (if v1 = 7 then some (hp.1 (c + 1) (ix 620)) else some (-10000000)))))))))
noncomputable def f_Mo_kinds_b29 (c : Nat) (hp : HP) (v1 : Int32) (v3 : Int32) (v2 : Int32) (v4 : Int32) : Option ((Int32 × Int32) ⊕ ((Int32 × Int32) ⊕ Int32)) :=
  (if (hp.1 (c + 1) (ix 3)) ≤ v4 then Option.map Sum.inr (some (Sum.inl (v2, (v3 + 1)))) else ((f_Mo_isKeyed c hp v3 v4).bind fun r5 => (if r5 = 0 then some (Sum.inl ((v2 + 0), (v4 + 1))) else ((f_Mo_kindBetween c hp 0 v3 1 v4).bind fun r7 => (if r7 = v1 then some (Sum.inl ((v2 + 1), (v4 + 1))) else some (Sum.inl ((v2 + 0), (v4 + 1))))))))
noncomputable def f_Mo_kinds_l29 (c : Nat) (hp : HP) (v1 : Int32) (v3 : Int32) (s : (Int32 × Int32)) : Option ((Int32 × Int32) ⊕ Int32) :=
  loop (fun s : (Int32 × Int32) => f_Mo_kinds_b29 c hp v1 v3 s.1 s.2) s
noncomputable def f_Mo_kinds_b16 (c : Nat) (hp : HP) (v1 : Int32) (v2 : Int32) (v3 : Int32) : Option ((Int32 × Int32) ⊕ Int32) :=
  (if (hp.1 (c + 1) (ix 2)) ≤ v3 then Option.map Sum.inr (some v2) else f_Mo_kinds_l29 c hp v1 v3 (v2, 0))
noncomputable def f_Mo_kinds_l16 (c : Nat) (hp : HP) (v1 : Int32) (s : (Int32 × Int32)) : Option Int32 :=
  loop (fun s : (Int32 × Int32) => f_Mo_kinds_b16 c hp v1 s.1 s.2) s
noncomputable def f_Mo_kinds (c : Nat) (hp : HP) (v1 : Int32) : Option Int32 :=
  ((f_Mo_isIn v1 0 12).bind fun r1 => (if r1 = 0 then some (-1) else f_Mo_kinds_l16 c hp v1 (0, 0)))
noncomputable def f_Mo_shared_b55 (c : Nat) (hp : HP) (v1 : Int32) (v4 : Int32) (v2 : Int64) (v5 : Int32) : Option ((Int64 × Int32) ⊕ ((Int64 × Int32) ⊕ Int64)) :=
  (if (hp.1 (c + 1) (ix 3)) ≤ v5 then Option.map Sum.inr (some (Sum.inl (v2, (v4 + 1)))) else ((f_Mo_arePartners c hp v4 v5).bind fun r5 => (if r5 = 0 then some (Sum.inl ((v2 + 0), (v5 + 1))) else ((f_Mo_sharedLong c hp v4 v5).bind fun r7 => some (Sum.inl ((v2 + (Int32.toInt64 r7)), (v5 + 1)))))))
noncomputable def f_Mo_shared_l55 (c : Nat) (hp : HP) (v1 : Int32) (v4 : Int32) (s : (Int64 × Int32)) : Option ((Int64 × Int32) ⊕ Int64) :=
  loop (fun s : (Int64 × Int32) => f_Mo_shared_b55 c hp v1 v4 s.1 s.2) s
noncomputable def f_Mo_shared_b21 (c : Nat) (hp : HP) (v1 : Int32) (v2 : Int64) (v4 : Int32) : Option ((Int64 × Int32) ⊕ Int64) :=
  (if (hp.1 (c + 1) (ix 2)) ≤ v4 then Option.map Sum.inr (some v2) else (if v1 = (-1) then f_Mo_shared_l55 c hp v1 v4 (v2, 0) else ((f_Mo_of c hp 0 v4 1).bind fun r8 => (if r8 = v1 then f_Mo_shared_l55 c hp v1 v4 (v2, 0) else some (Sum.inl (v2, (v4 + 1)))))))
noncomputable def f_Mo_shared_l21 (c : Nat) (hp : HP) (v1 : Int32) (s : (Int64 × Int32)) : Option Int64 :=
  loop (fun s : (Int64 × Int32) => f_Mo_shared_b21 c hp v1 s.1 s.2) s
noncomputable def f_Mo_shared (c : Nat) (hp : HP) (v1 : Int32) : Option Int64 :=
  (if v1 = (-1) then f_Mo_shared_l21 c hp v1 (0, 0) else ((f_Mo_isKey v1).bind fun r10 => (if r10 = 0 then some (-1) else f_Mo_shared_l21 c hp v1 (0, 0))))
noncomputable def f_Mo_weight_b23 (c : Nat) (hp : HP) (v1 : Int32) (v2 : Int32) (v3 : Int64) (v5 : Int32) : Option ((Int64 × Int32) ⊕ Int64) :=
  (if inb (2 + v1) 4100 then (if (hp.1 (c + 1) (ix (2 + v1))) ≤ v5 then Option.map Sum.inr (some v3) else ((f_Mo_of c hp v1 v5 1).bind fun r7 => (if r7 = v2 then ((f_Mo_of c hp v1 v5 4).bind fun r9 => ((f_Mo_longOf c hp v1 v5).bind fun r10 => some (Sum.inl ((v3 + ((Int32.toInt64 r9) * (Int32.toInt64 r10))), (v5 + 1))))) else some (Sum.inl ((v3 + 0), (v5 + 1)))))) else none)
noncomputable def f_Mo_weight_l23 (c : Nat) (hp : HP) (v1 : Int32) (v2 : Int32) (s : (Int64 × Int32)) : Option Int64 :=
  loop (fun s : (Int64 × Int32) => f_Mo_weight_b23 c hp v1 v2 s.1 s.2) s
noncomputable def f_Mo_weight (c : Nat) (hp : HP) (v1 : Int32) (v2 : Int32) : Option Int64 :=
  ((f_Mo_isSide v1).bind fun r1 => (if r1 = 0 then some (-1) else ((f_Mo_isKey v2).bind fun r3 => (if r3 = 0 then some (-1) else f_Mo_weight_l23 c hp v1 v2 (0, 0)))))
noncomputable def f_Mo_adds (c : Nat) (hp : HP) (v1 : Int32) (v2 : Int32) (v3 : Int32) : Option HP :=
  (if inb (hp.1 c 6) 200 then if inb ((upI hp (c + 3) (ix (hp.1 c 6)) v1).1 c 6) 200 then if inb ((upI (upI hp (c + 3) (ix (hp.1 c 6)) v1) (c + 4) (ix ((upI hp (c + 3) (ix (hp.1 c 6)) v1).1 c 6)) v2).1 c 6) 200 then some (upI (upI (upI (upI hp (c + 3) (ix (hp.1 c 6)) v1) (c + 4) (ix ((upI hp (c + 3) (ix (hp.1 c 6)) v1).1 c 6)) v2) (c + 5) (ix ((upI (upI hp (c + 3) (ix (hp.1 c 6)) v1) (c + 4) (ix ((upI hp (c + 3) (ix (hp.1 c 6)) v1).1 c 6)) v2).1 c 6)) v3) c 6 (((upI (upI (upI hp (c + 3) (ix (hp.1 c 6)) v1) (c + 4) (ix ((upI hp (c + 3) (ix (hp.1 c 6)) v1).1 c 6)) v2) (c + 5) (ix ((upI (upI hp (c + 3) (ix (hp.1 c 6)) v1) (c + 4) (ix ((upI hp (c + 3) (ix (hp.1 c 6)) v1).1 c 6)) v2).1 c 6)) v3).1 c 6) + 1)) else none else none else none)
noncomputable def f_Mo_longest_b11 (c : Nat) (hp : HP) (v1 : Int32) (v2 : Int32) (v3 : Int32) (v5 : Int32) (v4 : Int32) (v6 : Int32) : Option ((Int32 × Int32) ⊕ Int32) :=
  (if inb (2 + v5) 4100 then (if (hp.1 (c + 1) (ix (2 + v5))) ≤ v6 then Option.map Sum.inr (some v4) else ((f_Mo_isPartner c hp v1 v2 v6).bind fun r3 => (if r3 = 0 then some (Sum.inl (v4, (v6 + 1))) else ((f_Mo_startOf c hp v5 v6).bind fun r5 => (if v3 < r5 then some (Sum.inl (v4, (v6 + 1))) else ((f_Mo_endOf c hp v5 v6).bind fun r7 => (if v3 < r7 then (if v4 = (-1) then some (Sum.inl (v6, (v6 + 1))) else ((f_Mo_endOf c hp v5 v6).bind fun r10 => ((f_Mo_endOf c hp v5 v4).bind fun r11 => (if r10 ≤ r11 then some (Sum.inl (v4, (v6 + 1))) else some (Sum.inl (v6, (v6 + 1))))))) else some (Sum.inl (v4, (v6 + 1)))))))))) else none)
noncomputable def f_Mo_longest_l11 (c : Nat) (hp : HP) (v1 : Int32) (v2 : Int32) (v3 : Int32) (v5 : Int32) (s : (Int32 × Int32)) : Option Int32 :=
  loop (fun s : (Int32 × Int32) => f_Mo_longest_b11 c hp v1 v2 v3 v5 s.1 s.2) s
noncomputable def f_Mo_longest (c : Nat) (hp : HP) (v1 : Int32) (v2 : Int32) (v3 : Int32) : Option Int32 :=
  f_Mo_longest_l11 c hp v1 v2 v3 (1 - v1) ((-1), 0)
noncomputable def f_Mo_nextStart_b16 (c : Nat) (hp : HP) (v1 : Int32) (v2 : Int32) (v3 : Int32) (v5 : Int32) (v4 : Int32) (v6 : Int32) : Option ((Int32 × Int32) ⊕ Int32) :=
  (if inb (2 + v5) 4100 then (if (hp.1 (c + 1) (ix (2 + v5))) ≤ v6 then Option.map Sum.inr (some v4) else ((f_Mo_isPartner c hp v1 v2 v6).bind fun r4 => (if r4 = 0 then some (Sum.inl (v4, (v6 + 1))) else ((f_Mo_startOf c hp v5 v6).bind fun r6 => (if r6 ≤ v3 then some (Sum.inl (v4, (v6 + 1))) else ((f_Mo_startOf c hp v5 v6).bind fun r8 => ((f_Mo_less v4 r8).bind fun r9 => some (Sum.inl (r9, (v6 + 1)))))))))) else none)
noncomputable def f_Mo_nextStart_l16 (c : Nat) (hp : HP) (v1 : Int32) (v2 : Int32) (v3 : Int32) (v5 : Int32) (s : (Int32 × Int32)) : Option Int32 :=
  loop (fun s : (Int32 × Int32) => f_Mo_nextStart_b16 c hp v1 v2 v3 v5 s.1 s.2) s
noncomputable def f_Mo_nextStart (c : Nat) (hp : HP) (v1 : Int32) (v2 : Int32) (v3 : Int32) : Option Int32 :=
  ((f_Mo_endOf c hp v1 v2).bind fun r1 => f_Mo_nextStart_l16 c hp v1 v2 v3 (1 - v1) (r1, 0))
noncomputable def f_Mo_covers_j65 (c : Nat) (hp : HP) (v1 : Int32) (v2 : Int32) (v3 : Int32) (v4 : Int32) (v5 : Int32) (s0 : Int32) : Option ((HP × Int32) ⊕ HP) :=
  ((f_Mo_adds c hp v3 s0 v5).bind fun h9 => some (Sum.inl (h9, s0)))
noncomputable def f_Mo_covers_b20 (c : Nat) (hp : HP) (v1 : Int32) (v2 : Int32) (v4 : Int32) (v3 : Int32) : Option ((HP × Int32) ⊕ HP) :=
  (if v4 ≤ v3 then Option.map Sum.inr (some hp) else ((f_Mo_longest c hp v1 v2 v3).bind fun r4 => (if r4 = (-1) then ((f_Mo_nextStart c hp v1 v2 v3).bind fun r10 => f_Mo_covers_j65 c hp v1 v2 v3 v4 r4 r10) else ((f_Mo_endOf c hp (1 - v1) r4).bind fun r6 => ((f_Mo_less v4 r6).bind fun r7 => f_Mo_covers_j65 c hp v1 v2 v3 v4 r4 r7)))))
noncomputable def f_Mo_covers_l20 (c : Nat) (hp : HP) (v1 : Int32) (v2 : Int32) (v4 : Int32) (s : (HP × Int32)) : Option HP :=
  loop (fun s : (HP × Int32) => f_Mo_covers_b20 c s.1 v1 v2 v4 s.2) s
noncomputable def f_Mo_covers (c : Nat) (hp : HP) (v1 : Int32) (v2 : Int32) : Option HP :=
  ((f_Mo_startOf c (upI hp c 6 0) v1 v2).bind fun r1 => ((f_Mo_endOf c (upI hp c 6 0) v1 v2).bind fun r2 => f_Mo_covers_l20 c (upI hp c 6 0) v1 v2 r2 ((upI hp c 6 0), r1)))
noncomputable def f_Mo_partners_b5 (c : Nat) (hp : HP) (v1 : Int32) (v2 : Int32) (v3 : Int32) (v4 : Int32) : Option ((Int32 × Int32) ⊕ Int32) :=
  (if inb (3 - v1) 4100 then (if (hp.1 (c + 1) (ix (3 - v1))) ≤ v4 then Option.map Sum.inr (some v3) else ((f_Mo_isPartner c hp v1 v2 v4).bind fun r3 => (if r3 = 0 then some (Sum.inl ((v3 + 0), (v4 + 1))) else some (Sum.inl ((v3 + 1), (v4 + 1)))))) else none)
noncomputable def f_Mo_partners_l5 (c : Nat) (hp : HP) (v1 : Int32) (v2 : Int32) (s : (Int32 × Int32)) : Option Int32 :=
  loop (fun s : (Int32 × Int32) => f_Mo_partners_b5 c hp v1 v2 s.1 s.2) s
noncomputable def f_Mo_partners (c : Nat) (hp : HP) (v1 : Int32) (v2 : Int32) : Option Int32 :=
  f_Mo_partners_l5 c hp v1 v2 (0, 0)
noncomputable def f_Mo_partnersAt_b11 (c : Nat) (hp : HP) (v1 : Int32) (v2 : Int32) (v3 : Int32) (v5 : Int32) (v4 : Int32) (v6 : Int32) : Option ((Int32 × Int32) ⊕ Int32) :=
  (if inb (2 + v5) 4100 then (if (hp.1 (c + 1) (ix (2 + v5))) ≤ v6 then Option.map Sum.inr (some v4) else ((f_Mo_isPartner c hp v1 v2 v6).bind fun r3 => (if r3 = 0 then some (Sum.inl ((v4 + 0), (v6 + 1))) else ((f_Mo_startOf c hp v5 v6).bind fun r5 => (if v3 < r5 then some (Sum.inl ((v4 + 0), (v6 + 1))) else ((f_Mo_endOf c hp v5 v6).bind fun r7 => (if r7 ≤ v3 then some (Sum.inl ((v4 + 0), (v6 + 1))) else some (Sum.inl ((v4 + 1), (v6 + 1)))))))))) else none)
noncomputable def f_Mo_partnersAt_l11 (c : Nat) (hp : HP) (v1 : Int32) (v2 : Int32) (v3 : Int32) (v5 : Int32) (s : (Int32 × Int32)) : Option Int32 :=
  loop (fun s : (Int32 × Int32) => f_Mo_partnersAt_b11 c hp v1 v2 v3 v5 s.1 s.2) s
noncomputable def f_Mo_partnersAt (c : Nat) (hp : HP) (v1 : Int32) (v2 : Int32) (v3 : Int32) : Option Int32 :=
  f_Mo_partnersAt_l11 c hp v1 v2 v3 (1 - v1) (0, 0)
noncomputable def f_Mo_depth_b5 (c : Nat) (hp : HP) (v1 : Int32) (v2 : Int32) (v3 : Int32) (v4 : Int32) : Option ((Int32 × Int32) ⊕ Int32) :=
  (if inb (3 - v1) 4100 then (if (hp.1 (c + 1) (ix (3 - v1))) ≤ v4 then Option.map Sum.inr (some v3) else ((f_Mo_isPartner c hp v1 v2 v4).bind fun r3 => (if r3 = 0 then some (Sum.inl (v3, (v4 + 1))) else ((f_Mo_startOf c hp (1 - v1) v4).bind fun r5 => ((f_Mo_partnersAt c hp v1 v2 r5).bind fun r6 => ((f_Mo_more v3 r6).bind fun r7 => some (Sum.inl (r7, (v4 + 1))))))))) else none)
noncomputable def f_Mo_depth_l5 (c : Nat) (hp : HP) (v1 : Int32) (v2 : Int32) (s : (Int32 × Int32)) : Option Int32 :=
  loop (fun s : (Int32 × Int32) => f_Mo_depth_b5 c hp v1 v2 s.1 s.2) s
noncomputable def f_Mo_depth (c : Nat) (hp : HP) (v1 : Int32) (v2 : Int32) : Option Int32 :=
  f_Mo_depth_l5 c hp v1 v2 (0, 0)
noncomputable def f_Mo_leftOver_b11 (c : Nat) (hp : HP)  (v3 : Int32) (v4 : Int32) : Option ((Int32 × Int32) ⊕ (HP × Int32)) :=
  (if (hp.1 c 6) ≤ v4 then Option.map Sum.inr (some (hp, v3)) else (if inb v4 200 then (if (hp.1 (c + 5) (ix v4)) = (-1) then some (Sum.inl ((v3 + 1), (v4 + 1))) else some (Sum.inl ((v3 + 0), (v4 + 1)))) else none))
noncomputable def f_Mo_leftOver_l11 (c : Nat) (hp : HP)  (s : (Int32 × Int32)) : Option (HP × Int32) :=
  loop (fun s : (Int32 × Int32) => f_Mo_leftOver_b11 c hp  s.1 s.2) s
noncomputable def f_Mo_leftOver (c : Nat) (hp : HP) (v1 : Int32) (v2 : Int32) : Option (HP × Int32) :=
  ((f_Mo_covers c hp v1 v2).bind fun h2 => f_Mo_leftOver_l11 c h2  (0, 0))
noncomputable def f_Mo_coveredLong_b11 (c : Nat) (hp : HP)  (v3 : Int32) (v4 : Int32) : Option ((Int32 × Int32) ⊕ (HP × Int32)) :=
  (if (hp.1 c 6) ≤ v4 then Option.map Sum.inr (some (hp, v3)) else (if inb v4 200 then (if (hp.1 (c + 5) (ix v4)) = (-1) then some (Sum.inl ((v3 + 0), (v4 + 1))) else (if inb v4 200 then ((f_Mo_time (hp.1 (c + 4) (ix v4))).bind fun r7 => (if inb v4 200 then ((f_Mo_time (hp.1 (c + 3) (ix v4))).bind fun r9 => some (Sum.inl ((v3 + (r7 - r9)), (v4 + 1)))) else none)) else none)) else none))
noncomputable def f_Mo_coveredLong_l11 (c : Nat) (hp : HP)  (s : (Int32 × Int32)) : Option (HP × Int32) :=
  loop (fun s : (Int32 × Int32) => f_Mo_coveredLong_b11 c hp  s.1 s.2) s
noncomputable def f_Mo_coveredLong (c : Nat) (hp : HP) (v1 : Int32) (v2 : Int32) : Option (HP × Int32) :=
  ((f_Mo_covers c hp v1 v2).bind fun h2 => f_Mo_coveredLong_l11 c h2  (0, 0))
noncomputable def f_Mo_row (c : Nat) (hp : HP) (v1 : Int32) (v2 : Int32) (v3 : Int32) : Option (HP × Int32) :=
  ((f_Mo_isRow c hp v1 v2).bind fun r1 => (if r1 = 0 then some (hp, (-10000000)) else (if v3 = 0 then ((f_Mo_of c hp v1 v2 v3).bind fun r3 => some (hp, r3)) else (if v3 = 1 then ((f_Mo_of c hp v1 v2 v3).bind fun r4 => some (hp, r4)) else (if v3 = 2 then ((f_Mo_of c hp v1 v2 v3).bind fun r5 => some (hp, r5)) else (if v3 = 3 then ((f_Mo_of c hp v1 v2 v3).bind fun r6 => some (hp, r6)) else (if v3 = 4 then ((f_Mo_of c hp v1 v2 v3).bind fun r7 => some (hp, r7)) else (if v3 = 5 then ((f_Mo_longOf c hp v1 v2).bind fun r8 => some (hp, r8)) else (if v3 = 6 then ((f_Mo_partners c hp v1 v2).bind fun r9 => some (hp, r9)) else (if v3 = 7 then ((f_Mo_depth c hp v1 v2).bind fun r10 => some (hp, r10)) else (if v3 = 8 then ((f_Mo_covers c hp v1 v2).bind fun h12 => some (h12, (h12.1 c 6))) else (if v3 = 9 then ((f_Mo_leftOver c hp v1 v2).bind fun p_r13 => some (p_r13.1, p_r13.2)) else (if v3 = 10 then ((f_Mo_coveredLong c hp v1 v2).bind fun p_r15 => some (p_r15.1, p_r15.2)) else some (hp, (-10000000)))))))))))))))
noncomputable def f_Mo_kind (c : Nat) (hp : HP) (v1 : Int32) (v2 : Int32) (v3 : Int32) (v4 : Int32) : Option Int32 :=
  ((f_Mo_isRow c hp v1 v2).bind fun r1 => (if r1 = 0 then some (-1) else ((f_Mo_isRow c hp v3 v4).bind fun r3 => (if r3 = 0 then some (-1) else ((f_Mo_kindBetween c hp v1 v2 v3 v4).bind fun r5 => some r5)))))
noncomputable def f_Mo_piece (c : Nat) (hp : HP) (v1 : Int32) (v2 : Int32) (v3 : Int32) (v4 : Int32) : Option (HP × Int32) :=
  ((f_Mo_isRow c hp v1 v2).bind fun r1 => (if r1 = 0 then some (hp, (-10000000)) else ((f_Mo_covers c hp v1 v2).bind fun h4 => ((f_Mo_isIn v3 0 ((h4.1 c 6) - 1)).bind fun r5 => (if r5 = 0 then some (h4, (-10000000)) else (if v4 = 0 then (if inb v3 200 then ((f_Mo_time (h4.1 (c + 3) (ix v3))).bind fun r14 => some (h4, r14)) else none) else (if v4 = 1 then (if inb v3 200 then ((f_Mo_time (h4.1 (c + 4) (ix v3))).bind fun r12 => some (h4, r12)) else none) else (if v4 = 2 then (if inb v3 200 then some (h4, (h4.1 (c + 5) (ix v3))) else none) else some (h4, (-10000000))))))))))
noncomputable def f_Mo_left_b39 (c : Nat) (hp : HP) (v1 : Int32) (v2 : Int32) (v3 : Int32) (v5 : Int32) (v4 : Int32) (v6 : Int32) : Option ((Int32 × Int32) ⊕ ((HP × Int32 × Int32) ⊕ (HP × Int32))) :=
  (if (hp.1 c 6) ≤ v6 then Option.map Sum.inr (some (Sum.inl (hp, v4, (v5 + 1)))) else (if inb v6 200 then (if (hp.1 (c + 5) (ix v6)) = (-1) then (if v4 = v2 then Option.map Sum.inr (Option.map Sum.inr ((if v3 = 0 then some (hp, v5) else (if v3 = 1 then (if inb v6 200 then ((f_Mo_time (hp.1 (c + 3) (ix v6))).bind fun r18 => some (hp, r18)) else none) else (if v3 = 2 then (if inb v6 200 then ((f_Mo_time (hp.1 (c + 4) (ix v6))).bind fun r16 => some (hp, r16)) else none) else some (hp, (-10000000))))))) else some (Sum.inl ((v4 + 1), (v6 + 1)))) else some (Sum.inl (v4, (v6 + 1)))) else none))
noncomputable def f_Mo_left_l39 (c : Nat) (hp : HP) (v1 : Int32) (v2 : Int32) (v3 : Int32) (v5 : Int32) (s : (Int32 × Int32)) : Option ((HP × Int32 × Int32) ⊕ (HP × Int32)) :=
  loop (fun s : (Int32 × Int32) => f_Mo_left_b39 c hp v1 v2 v3 v5 s.1 s.2) s
noncomputable def f_Mo_left_b16 (c : Nat) (hp : HP) (v1 : Int32) (v2 : Int32) (v3 : Int32) (v4 : Int32) (v5 : Int32) : Option ((HP × Int32 × Int32) ⊕ (HP × Int32)) :=
  (if inb (2 + v1) 4100 then (if (hp.1 (c + 1) (ix (2 + v1))) ≤ v5 then Option.map Sum.inr ((if v2 = (-1) then some (hp, v4) else some (hp, (-10000000)))) else ((f_Mo_covers c hp v1 v5).bind fun h7 => f_Mo_left_l39 c h7 v1 v2 v3 v5 (v4, 0))) else none)
noncomputable def f_Mo_left_l16 (c : Nat) (hp : HP) (v1 : Int32) (v2 : Int32) (v3 : Int32) (s : (HP × Int32 × Int32)) : Option (HP × Int32) :=
  loop (fun s : (HP × Int32 × Int32) => f_Mo_left_b16 c s.1 v1 v2 v3 s.2.1 s.2.2) s
noncomputable def f_Mo_left (c : Nat) (hp : HP) (v1 : Int32) (v2 : Int32) (v3 : Int32) : Option (HP × Int32) :=
  ((f_Mo_isSide v1).bind fun r1 => (if r1 = 0 then some (hp, (-10000000)) else f_Mo_left_l16 c hp v1 v2 v3 (hp, 0, 0)))
noncomputable def f_Mo_isLive (c : Nat) (hp : HP) (v1 : Int32) (v2 : Int32) (v3 : Int32) : Option Int32 :=
  ((f_Mo_startOf c hp v1 v2).bind fun r1 => (if v3 < r1 then some 0 else ((f_Mo_endOf c hp v1 v2).bind fun r3 => (if r3 ≤ v3 then some 0 else some 1))))
noncomputable def f_Mo_liveAt_j38 (c : Nat) (hp : HP) (v1 : Int32) (v2 : Int32) (v3 : Int32) (v5 : Int32) (s0 : Int32) : Option ((Int32 × Int32) ⊕ Int32) :=
  ((f_Mo_isLive c hp v1 v5 v3).bind fun r4 => (if r4 = 0 then some (Sum.inl ((s0 + 0), (v5 + 1))) else some (Sum.inl ((s0 + 1), (v5 + 1)))))
noncomputable def f_Mo_liveAt_b6 (c : Nat) (hp : HP) (v1 : Int32) (v2 : Int32) (v3 : Int32) (v4 : Int32) (v5 : Int32) : Option ((Int32 × Int32) ⊕ Int32) :=
  (if inb (2 + v1) 4100 then (if (hp.1 (c + 1) (ix (2 + v1))) ≤ v5 then Option.map Sum.inr (some v4) else (if v2 = (-1) then f_Mo_liveAt_j38 c hp v1 v2 v3 v5 v4 else ((f_Mo_of c hp v1 v5 1).bind fun r6 => (if r6 = v2 then f_Mo_liveAt_j38 c hp v1 v2 v3 v5 v4 else some (Sum.inl ((v4 + 0), (v5 + 1))))))) else none)
noncomputable def f_Mo_liveAt_l6 (c : Nat) (hp : HP) (v1 : Int32) (v2 : Int32) (v3 : Int32) (s : (Int32 × Int32)) : Option Int32 :=
  loop (fun s : (Int32 × Int32) => f_Mo_liveAt_b6 c hp v1 v2 v3 s.1 s.2) s
noncomputable def f_Mo_liveAt (c : Nat) (hp : HP) (v1 : Int32) (v2 : Int32) (v3 : Int32) : Option Int32 :=
  f_Mo_liveAt_l6 c hp v1 v2 v3 (0, 0)
noncomputable def f_Mo_live_j19 (c : Nat) (hp : HP) (v1 : Int32) (v2 : Int32) (v3 : Int32)  : Option Int32 :=
  ((f_Mo_isIn v3 (-1000000) 1000000).bind fun r4 => (if r4 = 0 then some (-1) else ((f_Mo_liveAt c hp v1 v2 (2 * v3)).bind fun r6 => some r6)))
noncomputable def f_Mo_live (c : Nat) (hp : HP) (v1 : Int32) (v2 : Int32) (v3 : Int32) : Option Int32 :=
  ((f_Mo_isSide v1).bind fun r1 => (if r1 = 0 then some (-1) else (if v2 = (-1) then f_Mo_live_j19 c hp v1 v2 v3  else ((f_Mo_isKey v2).bind fun r7 => (if r7 = 0 then some (-1) else f_Mo_live_j19 c hp v1 v2 v3 )))))
noncomputable def f_Mo_crowd_j120 (c : Nat) (hp : HP) (v1 : Int32) (v2 : Int32) (v5 : Int32) (v6 : Int32) (v7 : Int32) (v8 : Int32)  : Option ((Int32 × Int32 × Int32) ⊕ ((Int32 × Int32 × Int32) ⊕ Int32)) :=
  ((f_Mo_time v7).bind fun r16 => some (Sum.inl (v8, r16, (v6 + 1))))
noncomputable def f_Mo_crowd_b36 (c : Nat) (hp : HP) (v1 : Int32) (v2 : Int32) (v5 : Int32) (v3 : Int32) (v4 : Int32) (v6 : Int32) : Option ((Int32 × Int32 × Int32) ⊕ ((Int32 × Int32 × Int32) ⊕ Int32)) :=
  (if inb (2 + v5) 4100 then (if (hp.1 (c + 1) (ix (2 + v5))) ≤ v6 then Option.map Sum.inr (some (Sum.inl (v3, v4, (v5 + 1)))) else ((f_Mo_of c hp v5 v6 1).bind fun r9 => (if r9 = v1 then ((f_Mo_startOf c hp v5 v6).bind fun r11 => ((f_Mo_liveAt c hp 0 v1 r11).bind fun r12 => ((f_Mo_liveAt c hp 1 v1 r11).bind fun r13 => (if (r12 + r13) < v3 then some (Sum.inl (v3, v4, (v6 + 1))) else (if (r12 + r13) = v3 then ((f_Mo_time r11).bind fun r17 => (if r17 < v4 then f_Mo_crowd_j120 c hp v1 v2 v5 v6 r11 (r12 + r13)  else some (Sum.inl (v3, v4, (v6 + 1))))) else f_Mo_crowd_j120 c hp v1 v2 v5 v6 r11 (r12 + r13) ))))) else some (Sum.inl (v3, v4, (v6 + 1)))))) else none)
noncomputable def f_Mo_crowd_l36 (c : Nat) (hp : HP) (v1 : Int32) (v2 : Int32) (v5 : Int32) (s : (Int32 × Int32 × Int32)) : Option ((Int32 × Int32 × Int32) ⊕ Int32) :=
  loop (fun s : (Int32 × Int32 × Int32) => f_Mo_crowd_b36 c hp v1 v2 v5 s.1 s.2.1 s.2.2) s
noncomputable def f_Mo_crowd_b27 (c : Nat) (hp : HP) (v1 : Int32) (v2 : Int32) (v3 : Int32) (v4 : Int32) (v5 : Int32) : Option ((Int32 × Int32 × Int32) ⊕ Int32) :=
  (if 2 ≤ v5 then Option.map Sum.inr ((if v2 = 0 then some v3 else some v4)) else f_Mo_crowd_l36 c hp v1 v2 v5 (v3, v4, 0))
noncomputable def f_Mo_crowd_l27 (c : Nat) (hp : HP) (v1 : Int32) (v2 : Int32) (s : (Int32 × Int32 × Int32)) : Option Int32 :=
  loop (fun s : (Int32 × Int32 × Int32) => f_Mo_crowd_b27 c hp v1 v2 s.1 s.2.1 s.2.2) s
noncomputable def f_Mo_crowd (c : Nat) (hp : HP) (v1 : Int32) (v2 : Int32) : Option Int32 :=
  ((f_Mo_isKey v1).bind fun r1 => (if r1 = 0 then some (-10000000) else ((f_Mo_isIn v2 0 1).bind fun r3 => (if r3 = 0 then some (-10000000) else f_Mo_crowd_l27 c hp v1 v2 (0, 0, 0)))))
noncomputable def f_Mo_isOne (c : Nat) (hp : HP) (v1 : Int32) (v2 : Int32) (v3 : Int32) : Option Int32 :=
  ((f_Mo_of c hp v1 v2 1).bind fun r1 => ((f_Mo_of c hp v1 v3 1).bind fun r2 => (if r1 = r2 then ((f_Mo_of c hp v1 v2 4).bind fun r4 => ((f_Mo_of c hp v1 v3 4).bind fun r5 => (if r4 = r5 then ((f_Mo_kindBetween c hp v1 v2 v1 v3).bind fun r7 => ((f_Mo_isIn r7 1 11).bind fun r8 => (if r8 = 0 then some 0 else some 1))) else some 0))) else some 0)))
noncomputable def f_Mo_makesOne_b49 (c : Nat) (hp : HP) (v1 : Int32) (v2 : Int32) (v4 : Int32) (v3 : Int32) (v5 : Int32) : Option ((HP × Int32 × Int32) ⊕ ((HP × Int32 × Int32) ⊕ ((HP × Int32) ⊕ HP))) :=
  (if v2 ≤ v5 then Option.map Sum.inr (some (Sum.inl (hp, v3, (v4 + 1)))) else (if inb v4 40 then if inb v5 40 then (if (hp.1 (c + 6) (ix v4)) ≤ (hp.1 (c + 6) (ix v5)) then some (Sum.inl (hp, v3, (v5 + 1))) else ((f_Mo_isOne c hp v1 v4 v5).bind fun r9 => (if r9 = 0 then some (Sum.inl (hp, v3, (v5 + 1))) else (if inb v5 40 then if inb v4 40 then some (Sum.inl ((upI hp (c + 6) (ix v4) (hp.1 (c + 6) (ix v5))), 1, (v5 + 1))) else none else none)))) else none else none))
noncomputable def f_Mo_makesOne_l49 (c : Nat) (hp : HP) (v1 : Int32) (v2 : Int32) (v4 : Int32) (s : (HP × Int32 × Int32)) : Option ((HP × Int32 × Int32) ⊕ ((HP × Int32) ⊕ HP)) :=
  loop (fun s : (HP × Int32 × Int32) => f_Mo_makesOne_b49 c s.1 v1 v2 v4 s.2.1 s.2.2) s
noncomputable def f_Mo_makesOne_b40 (c : Nat) (hp : HP) (v1 : Int32) (v2 : Int32) (v3 : Int32) (v4 : Int32) : Option ((HP × Int32 × Int32) ⊕ ((HP × Int32) ⊕ HP)) :=
  (if v2 ≤ v4 then Option.map Sum.inr (some (Sum.inl (hp, v3))) else f_Mo_makesOne_l49 c hp v1 v2 v4 (hp, v3, 0))
noncomputable def f_Mo_makesOne_l40 (c : Nat) (hp : HP) (v1 : Int32) (v2 : Int32) (s : (HP × Int32 × Int32)) : Option ((HP × Int32) ⊕ HP) :=
  loop (fun s : (HP × Int32 × Int32) => f_Mo_makesOne_b40 c s.1 v1 v2 s.2.1 s.2.2) s
noncomputable def f_Mo_makesOne_b31 (c : Nat) (hp : HP) (v1 : Int32) (v2 : Int32) (v3 : Int32) : Option ((HP × Int32) ⊕ HP) :=
  (if v3 = 0 then Option.map Sum.inr (some hp) else f_Mo_makesOne_l40 c hp v1 v2 (hp, 0, 0))
noncomputable def f_Mo_makesOne_l31 (c : Nat) (hp : HP) (v1 : Int32) (v2 : Int32) (s : (HP × Int32)) : Option HP :=
  loop (fun s : (HP × Int32) => f_Mo_makesOne_b31 c s.1 v1 v2 s.2) s
noncomputable def f_Mo_makesOne_b11 (c : Nat) (hp : HP) (v1 : Int32) (v2 : Int32) (v3 : Int32) : Option ((HP × Int32) ⊕ HP) :=
  (if v2 ≤ v3 then Option.map Sum.inr (f_Mo_makesOne_l31 c hp v1 v2 (hp, 1)) else (if inb v3 40 then some (Sum.inl ((upI hp (c + 6) (ix v3) v3), (v3 + 1))) else none))
noncomputable def f_Mo_makesOne_l11 (c : Nat) (hp : HP) (v1 : Int32) (v2 : Int32) (s : (HP × Int32)) : Option HP :=
  loop (fun s : (HP × Int32) => f_Mo_makesOne_b11 c s.1 v1 v2 s.2) s
noncomputable def f_Mo_makesOne (c : Nat) (hp : HP) (v1 : Int32) : Option HP :=
  (if inb (2 + v1) 4100 then f_Mo_makesOne_l11 c hp v1 (hp.1 (c + 1) (ix (2 + v1))) (hp, 0) else none)
noncomputable def f_Mo_least_b10 (c : Nat) (hp : HP) (v1 : Int32) (v2 : Int32) (v3 : Int32) (v4 : Int32) : Option ((Int32 × Int32) ⊕ Int32) :=
  (if inb (2 + v1) 4100 then (if (hp.1 (c + 1) (ix (2 + v1))) ≤ v4 then Option.map Sum.inr (some v3) else (if inb v4 40 then (if (hp.1 (c + 6) (ix v4)) = v2 then ((f_Mo_startOf c hp v1 v4).bind fun r6 => ((f_Mo_less v3 r6).bind fun r7 => some (Sum.inl (r7, (v4 + 1))))) else some (Sum.inl (v3, (v4 + 1)))) else none)) else none)
noncomputable def f_Mo_least_l10 (c : Nat) (hp : HP) (v1 : Int32) (v2 : Int32) (s : (Int32 × Int32)) : Option Int32 :=
  loop (fun s : (Int32 × Int32) => f_Mo_least_b10 c hp v1 v2 s.1 s.2) s
noncomputable def f_Mo_least (c : Nat) (hp : HP) (v1 : Int32) (v2 : Int32) : Option Int32 :=
  ((f_Mo_startOf c hp v1 v2).bind fun r1 => f_Mo_least_l10 c hp v1 v2 (r1, 0))
noncomputable def f_Mo_greatest_b10 (c : Nat) (hp : HP) (v1 : Int32) (v2 : Int32) (v3 : Int32) (v4 : Int32) : Option ((Int32 × Int32) ⊕ Int32) :=
  (if inb (2 + v1) 4100 then (if (hp.1 (c + 1) (ix (2 + v1))) ≤ v4 then Option.map Sum.inr (some v3) else (if inb v4 40 then (if (hp.1 (c + 6) (ix v4)) = v2 then ((f_Mo_endOf c hp v1 v4).bind fun r6 => ((f_Mo_more v3 r6).bind fun r7 => some (Sum.inl (r7, (v4 + 1))))) else some (Sum.inl (v3, (v4 + 1)))) else none)) else none)
noncomputable def f_Mo_greatest_l10 (c : Nat) (hp : HP) (v1 : Int32) (v2 : Int32) (s : (Int32 × Int32)) : Option Int32 :=
  loop (fun s : (Int32 × Int32) => f_Mo_greatest_b10 c hp v1 v2 s.1 s.2) s
noncomputable def f_Mo_greatest (c : Nat) (hp : HP) (v1 : Int32) (v2 : Int32) : Option Int32 :=
  ((f_Mo_endOf c hp v1 v2).bind fun r1 => f_Mo_greatest_l10 c hp v1 v2 (r1, 0))
noncomputable def f_Mo_comesAhead (c : Nat) (hp : HP) (v1 : Int32) (v2 : Int32) (v3 : Int32) : Option Int32 :=
  ((f_Mo_of c hp v1 v2 1).bind fun r1 => ((f_Mo_of c hp v1 v3 1).bind fun r2 => (if r1 = r2 then ((f_Mo_least c hp v1 v2).bind fun r4 => ((f_Mo_least c hp v1 v3).bind fun r5 => (if r4 = r5 then ((f_Mo_of c hp v1 v2 4).bind fun r7 => ((f_Mo_of c hp v1 v3 4).bind fun r8 => (if r8 ≤ r7 then some 0 else some 1))) else ((f_Mo_least c hp v1 v2).bind fun r10 => ((f_Mo_least c hp v1 v3).bind fun r11 => (if r11 ≤ r10 then some 0 else some 1)))))) else ((f_Mo_of c hp v1 v2 1).bind fun r13 => ((f_Mo_of c hp v1 v3 1).bind fun r14 => (if r14 ≤ r13 then some 0 else some 1))))))
noncomputable def f_Mo_ones_b33 (c : Nat) (hp : HP) (v1 : Int32) (v2 : Int32) (v3 : Int32) (v4 : Int32) (v5 : Int32) : Option ((Int32 × Int32) ⊕ ((Int32) ⊕ Int32)) :=
  (if inb (2 + v1) 4100 then (if (hp.1 (c + 1) (ix (2 + v1))) ≤ v5 then Option.map Sum.inr ((if v4 = v2 then Option.map Sum.inr (some v3) else some (Sum.inl (v3 + 1)))) else (if inb v5 40 then (if (hp.1 (c + 6) (ix v5)) = v5 then (if v5 = v3 then some (Sum.inl ((v4 + 0), (v5 + 1))) else ((f_Mo_comesAhead c hp v1 v5 v3).bind fun r11 => (if r11 = 0 then some (Sum.inl ((v4 + 0), (v5 + 1))) else some (Sum.inl ((v4 + 1), (v5 + 1)))))) else some (Sum.inl ((v4 + 0), (v5 + 1)))) else none)) else none)
noncomputable def f_Mo_ones_l33 (c : Nat) (hp : HP) (v1 : Int32) (v2 : Int32) (v3 : Int32) (s : (Int32 × Int32)) : Option ((Int32) ⊕ Int32) :=
  loop (fun s : (Int32 × Int32) => f_Mo_ones_b33 c hp v1 v2 v3 s.1 s.2) s
noncomputable def f_Mo_ones_b2 (c : Nat) (hp : HP) (v1 : Int32) (v2 : Int32) (v3 : Int32) : Option ((Int32) ⊕ Int32) :=
  (if inb (2 + v1) 4100 then (if (hp.1 (c + 1) (ix (2 + v1))) ≤ v3 then Option.map Sum.inr (some (-1)) else (if inb v3 40 then (if (hp.1 (c + 6) (ix v3)) = v3 then f_Mo_ones_l33 c hp v1 v2 v3 (0, 0) else some (Sum.inl (v3 + 1))) else none)) else none)
noncomputable def f_Mo_ones_l2 (c : Nat) (hp : HP) (v1 : Int32) (v2 : Int32) (s : (Int32)) : Option Int32 :=
  loop (fun s : (Int32) => f_Mo_ones_b2 c hp v1 v2 s) s
noncomputable def f_Mo_ones (c : Nat) (hp : HP) (v1 : Int32) (v2 : Int32) : Option Int32 :=
  f_Mo_ones_l2 c hp v1 v2 0
noncomputable def f_Mo_one_b99 (c : Nat) (hp : HP) (v1 : Int32) (v3 : Int32) (v5 : Int32) (v6 : Int32) (v7 : Int32) : Option ((Int32 × Int32) ⊕ (HP × Int32)) :=
  (if inb (2 + v1) 4100 then (if (hp.1 (c + 1) (ix (2 + v1))) ≤ v7 then Option.map Sum.inr ((if v3 = 0 then ((f_Mo_of c hp v1 v5 1).bind fun r13 => some (hp, r13)) else (if v3 = 1 then ((f_Mo_least c hp v1 v5).bind fun r14 => ((f_Mo_time r14).bind fun r15 => some (hp, r15))) else (if v3 = 2 then ((f_Mo_greatest c hp v1 v5).bind fun r16 => ((f_Mo_time r16).bind fun r17 => some (hp, r17))) else (if v3 = 3 then ((f_Mo_of c hp v1 v5 4).bind fun r18 => some (hp, r18)) else (if v3 = 4 then some (hp, v6) else some (hp, (-10000000)))))))) else (if inb v7 40 then (if (hp.1 (c + 6) (ix v7)) = v5 then some (Sum.inl ((v6 + 1), (v7 + 1))) else some (Sum.inl ((v6 + 0), (v7 + 1)))) else none)) else none)
noncomputable def f_Mo_one_l99 (c : Nat) (hp : HP) (v1 : Int32) (v3 : Int32) (v5 : Int32) (s : (Int32 × Int32)) : Option (HP × Int32) :=
  loop (fun s : (Int32 × Int32) => f_Mo_one_b99 c hp v1 v3 v5 s.1 s.2) s
noncomputable def f_Mo_one_b21 (c : Nat) (hp : HP) (v1 : Int32) (v2 : Int32) (v3 : Int32) (v4 : Int32) (v5 : Int32) : Option ((Int32 × Int32) ⊕ (HP × Int32)) :=
  (if inb (2 + v1) 4100 then (if (hp.1 (c + 1) (ix (2 + v1))) ≤ v5 then Option.map Sum.inr ((if v2 = (-1) then some (hp, v4) else ((f_Mo_isIn v2 0 (v4 - 1)).bind fun r8 => (if r8 = 0 then some (hp, (-10000000)) else ((f_Mo_ones c hp v1 v2).bind fun r10 => f_Mo_one_l99 c hp v1 v3 r10 (0, 0)))))) else (if inb v5 40 then (if (hp.1 (c + 6) (ix v5)) = v5 then some (Sum.inl ((v4 + 1), (v5 + 1))) else some (Sum.inl ((v4 + 0), (v5 + 1)))) else none)) else none)
noncomputable def f_Mo_one_l21 (c : Nat) (hp : HP) (v1 : Int32) (v2 : Int32) (v3 : Int32) (s : (Int32 × Int32)) : Option (HP × Int32) :=
  loop (fun s : (Int32 × Int32) => f_Mo_one_b21 c hp v1 v2 v3 s.1 s.2) s
noncomputable def f_Mo_one (c : Nat) (hp : HP) (v1 : Int32) (v2 : Int32) (v3 : Int32) : Option (HP × Int32) :=
  ((f_Mo_isSide v1).bind fun r1 => (if r1 = 0 then some (hp, (-10000000)) else ((f_Mo_makesOne c hp v1).bind fun h4 => f_Mo_one_l21 c h4 v1 v2 v3 (0, 0))))
noncomputable def f_Mo_cuts_b50 (c : Nat) (hp : HP) (v1 : Int32) (v2 : Int32) (v3 : Int32) : Option ((HP × Int32) ⊕ HP) :=
  (if v3 ≤ v2 then Option.map Sum.inr ((if inb v2 200 then some (upI (upI hp (c + 7) (ix v2) v1) c 9 (((upI hp (c + 7) (ix v2) v1).1 c 9) + 1)) else none)) else (if inb (v3 - 1) 200 then if inb v3 200 then some (Sum.inl ((upI hp (c + 7) (ix v3) (hp.1 (c + 7) (ix (v3 - 1)))), (v3 + (-1)))) else none else none))
noncomputable def f_Mo_cuts_l50 (c : Nat) (hp : HP) (v1 : Int32) (v2 : Int32) (s : (HP × Int32)) : Option HP :=
  loop (fun s : (HP × Int32) => f_Mo_cuts_b50 c s.1 v1 v2 s.2) s
noncomputable def f_Mo_cuts_j26 (c : Nat) (hp : HP) (v1 : Int32) (v2 : Int32)  : Option HP :=
  (if (hp.1 c 9) ≤ v2 then f_Mo_cuts_l50 c hp v1 v2 (hp, (hp.1 c 9)) else (if inb v2 200 then (if (hp.1 (c + 7) (ix v2)) = v1 then some hp else f_Mo_cuts_l50 c hp v1 v2 (hp, (hp.1 c 9))) else none))
noncomputable def f_Mo_cuts_b2 (c : Nat) (hp : HP) (v1 : Int32) (v2 : Int32) : Option ((Int32) ⊕ HP) :=
  (if (hp.1 c 9) ≤ v2 then Option.map Sum.inr (f_Mo_cuts_j26 c hp v1 v2 ) else (if inb v2 200 then (if v1 ≤ (hp.1 (c + 7) (ix v2)) then Option.map Sum.inr (f_Mo_cuts_j26 c hp v1 v2 ) else some (Sum.inl (v2 + 1))) else none))
noncomputable def f_Mo_cuts_l2 (c : Nat) (hp : HP) (v1 : Int32) (s : (Int32)) : Option HP :=
  loop (fun s : (Int32) => f_Mo_cuts_b2 c hp v1 s) s
noncomputable def f_Mo_cuts (c : Nat) (hp : HP) (v1 : Int32) : Option HP :=
  f_Mo_cuts_l2 c hp v1 0
noncomputable def f_Mo_valuesAt_b14 (c : Nat) (hp : HP) (v1 : Int32) (v2 : Int32) (v4 : Int32) (v3 : Int32) (v5 : Int32) : Option ((Int32 × Int32) ⊕ ((Int32 × Int32) ⊕ Int32)) :=
  (if inb (2 + v4) 4100 then (if (hp.1 (c + 1) (ix (2 + v4))) ≤ v5 then Option.map Sum.inr (some (Sum.inl (v3, (v4 + 1)))) else ((f_Mo_of c hp v4 v5 1).bind fun r4 => (if r4 = v1 then ((f_Mo_isLive c hp v4 v5 v2).bind fun r6 => (if r6 = 0 then some (Sum.inl ((v3 + 0), (v5 + 1))) else ((f_Mo_of c hp v4 v5 4).bind fun r8 => some (Sum.inl ((v3 + r8), (v5 + 1)))))) else some (Sum.inl ((v3 + 0), (v5 + 1)))))) else none)
noncomputable def f_Mo_valuesAt_l14 (c : Nat) (hp : HP) (v1 : Int32) (v2 : Int32) (v4 : Int32) (s : (Int32 × Int32)) : Option ((Int32 × Int32) ⊕ Int32) :=
  loop (fun s : (Int32 × Int32) => f_Mo_valuesAt_b14 c hp v1 v2 v4 s.1 s.2) s
noncomputable def f_Mo_valuesAt_b5 (c : Nat) (hp : HP) (v1 : Int32) (v2 : Int32) (v3 : Int32) (v4 : Int32) : Option ((Int32 × Int32) ⊕ Int32) :=
  (if 2 ≤ v4 then Option.map Sum.inr (some v3) else f_Mo_valuesAt_l14 c hp v1 v2 v4 (v3, 0))
noncomputable def f_Mo_valuesAt_l5 (c : Nat) (hp : HP) (v1 : Int32) (v2 : Int32) (s : (Int32 × Int32)) : Option Int32 :=
  loop (fun s : (Int32 × Int32) => f_Mo_valuesAt_b5 c hp v1 v2 s.1 s.2) s
noncomputable def f_Mo_valuesAt (c : Nat) (hp : HP) (v1 : Int32) (v2 : Int32) : Option Int32 :=
  f_Mo_valuesAt_l5 c hp v1 v2 (0, 0)
noncomputable def f_Mo_steps_b99 (c : Nat) (hp : HP) (v1 : Int32) (v2 : Int32) (v3 : Int32) (v4 : Int32) (v5 : Int32) : Option ((Int32 × Int32) ⊕ (HP × Int32)) :=
  (if (hp.1 c 9) ≤ (v5 + 1) then Option.map Sum.inr ((if v2 = (-1) then some (hp, v4) else some (hp, (-10000000)))) else (if inb v5 200 then ((f_Mo_liveAt c hp 0 v1 (hp.1 (c + 7) (ix v5))).bind fun r7 => (if inb v5 200 then ((f_Mo_liveAt c hp 1 v1 (hp.1 (c + 7) (ix v5))).bind fun r9 => (if (r7 + r9) = 0 then some (Sum.inl (v4, (v5 + 1))) else (if v4 = v2 then Option.map Sum.inr ((if v3 = 0 then (if inb v5 200 then ((f_Mo_time (hp.1 (c + 7) (ix v5))).bind fun r21 => some (hp, r21)) else none) else (if v3 = 1 then (if inb (v5 + 1) 200 then ((f_Mo_time (hp.1 (c + 7) (ix (v5 + 1)))).bind fun r19 => some (hp, r19)) else none) else (if v3 = 2 then some (hp, (r7 + r9)) else (if v3 = 3 then (if inb v5 200 then ((f_Mo_valuesAt c hp v1 (hp.1 (c + 7) (ix v5))).bind fun r17 => some (hp, r17)) else none) else some (hp, (-10000000))))))) else some (Sum.inl ((v4 + 1), (v5 + 1)))))) else none)) else none))
noncomputable def f_Mo_steps_l99 (c : Nat) (hp : HP) (v1 : Int32) (v2 : Int32) (v3 : Int32) (s : (Int32 × Int32)) : Option (HP × Int32) :=
  loop (fun s : (Int32 × Int32) => f_Mo_steps_b99 c hp v1 v2 v3 s.1 s.2) s
noncomputable def f_Mo_steps_b27 (c : Nat) (hp : HP) (v1 : Int32) (v2 : Int32) (v3 : Int32) (v4 : Int32) (v5 : Int32) : Option ((HP × Int32) ⊕ ((HP × Int32) ⊕ (HP × Int32))) :=
  (if inb (2 + v4) 4100 then (if (hp.1 (c + 1) (ix (2 + v4))) ≤ v5 then Option.map Sum.inr (some (Sum.inl (hp, (v4 + 1)))) else ((f_Mo_of c hp v4 v5 1).bind fun r24 => (if r24 = v1 then ((f_Mo_startOf c hp v4 v5).bind fun r26 => ((f_Mo_cuts c hp r26).bind fun h28 => ((f_Mo_endOf c h28 v4 v5).bind fun r29 => ((f_Mo_cuts c h28 r29).bind fun h31 => some (Sum.inl (h31, (v5 + 1))))))) else some (Sum.inl (hp, (v5 + 1)))))) else none)
noncomputable def f_Mo_steps_l27 (c : Nat) (hp : HP) (v1 : Int32) (v2 : Int32) (v3 : Int32) (v4 : Int32) (s : (HP × Int32)) : Option ((HP × Int32) ⊕ (HP × Int32)) :=
  loop (fun s : (HP × Int32) => f_Mo_steps_b27 c s.1 v1 v2 v3 v4 s.2) s
noncomputable def f_Mo_steps_b18 (c : Nat) (hp : HP) (v1 : Int32) (v2 : Int32) (v3 : Int32) (v4 : Int32) : Option ((HP × Int32) ⊕ (HP × Int32)) :=
  (if 2 ≤ v4 then Option.map Sum.inr (f_Mo_steps_l99 c hp v1 v2 v3 (0, 0)) else f_Mo_steps_l27 c hp v1 v2 v3 v4 (hp, 0))
noncomputable def f_Mo_steps_l18 (c : Nat) (hp : HP) (v1 : Int32) (v2 : Int32) (v3 : Int32) (s : (HP × Int32)) : Option (HP × Int32) :=
  loop (fun s : (HP × Int32) => f_Mo_steps_b18 c s.1 v1 v2 v3 s.2) s
noncomputable def f_Mo_steps (c : Nat) (hp : HP) (v1 : Int32) (v2 : Int32) (v3 : Int32) : Option (HP × Int32) :=
  ((f_Mo_isKey v1).bind fun r1 => (if r1 = 0 then some (hp, (-10000000)) else f_Mo_steps_l18 c (upI hp c 9 0) v1 v2 v3 ((upI hp c 9 0), 0)))
noncomputable def f_Mo_split_j115 (c : Nat) (hp : HP) (v1 : Int32) (v2 : Int32) (v3 : Int32) (v4 : Int32) (v5 : Int32) (v6 : Int32) (v7 : Int32) (v8 : Int32)  : Option ((HP × Int32) ⊕ (HP × Int32)) :=
  ((f_Mo_endOf c hp v5 v8).bind fun r28 => ((f_Mo_isIn r28 (v6 + 1) (v7 - 1)).bind fun r29 => (if r29 = 0 then some (Sum.inl (hp, (v8 + 1))) else ((f_Mo_endOf c hp v5 v8).bind fun r31 => ((f_Mo_cuts c hp r31).bind fun h33 => some (Sum.inl (h33, (v8 + 1))))))))
noncomputable def f_Mo_split_b53 (c : Nat) (hp : HP) (v1 : Int32) (v2 : Int32) (v3 : Int32) (v4 : Int32) (v5 : Int32) (v6 : Int32) (v7 : Int32) (v8 : Int32) : Option ((HP × Int32) ⊕ (HP × Int32)) :=
  (if inb (2 + v5) 4100 then (if (hp.1 (c + 1) (ix (2 + v5))) ≤ v8 then Option.map Sum.inr ((if v3 = (-1) then some (hp, ((hp.1 c 9) - 1)) else ((f_Mo_isIn v3 0 ((hp.1 c 9) - 2)).bind fun r12 => (if r12 = 0 then some (hp, (-10000000)) else (if v4 = 0 then (if inb v3 200 then ((f_Mo_time (hp.1 (c + 7) (ix v3))).bind fun r22 => some (hp, r22)) else none) else (if v4 = 1 then (if inb (v3 + 1) 200 then ((f_Mo_time (hp.1 (c + 7) (ix (v3 + 1)))).bind fun r20 => some (hp, r20)) else none) else (if v4 = 2 then (if inb v3 200 then ((f_Mo_partnersAt c hp v1 v2 (hp.1 (c + 7) (ix v3))).bind fun r18 => some (hp, r18)) else none) else some (hp, (-10000000))))))))) else ((f_Mo_isPartner c hp v1 v2 v8).bind fun r23 => (if r23 = 0 then some (Sum.inl (hp, (v8 + 1))) else ((f_Mo_startOf c hp v5 v8).bind fun r25 => ((f_Mo_isIn r25 (v6 + 1) (v7 - 1)).bind fun r26 => (if r26 = 0 then f_Mo_split_j115 c hp v1 v2 v3 v4 v5 v6 v7 v8  else ((f_Mo_startOf c hp v5 v8).bind fun r34 => ((f_Mo_cuts c hp r34).bind fun h36 => f_Mo_split_j115 c h36 v1 v2 v3 v4 v5 v6 v7 v8 )))))))) else none)
noncomputable def f_Mo_split_l53 (c : Nat) (hp : HP) (v1 : Int32) (v2 : Int32) (v3 : Int32) (v4 : Int32) (v5 : Int32) (v6 : Int32) (v7 : Int32) (s : (HP × Int32)) : Option (HP × Int32) :=
  loop (fun s : (HP × Int32) => f_Mo_split_b53 c s.1 v1 v2 v3 v4 v5 v6 v7 s.2) s
noncomputable def f_Mo_split (c : Nat) (hp : HP) (v1 : Int32) (v2 : Int32) (v3 : Int32) (v4 : Int32) : Option (HP × Int32) :=
  ((f_Mo_isRow c hp v1 v2).bind fun r1 => (if r1 = 0 then some (hp, (-10000000)) else ((f_Mo_startOf c hp v1 v2).bind fun r3 => ((f_Mo_endOf c hp v1 v2).bind fun r4 => ((f_Mo_cuts c (upI hp c 9 0) r3).bind fun h6 => ((f_Mo_cuts c h6 r4).bind fun h8 => f_Mo_split_l53 c h8 v1 v2 v3 v4 (1 - v1) r3 r4 (h8, 0)))))))
noncomputable def f_Mo_latest_j82 (c : Nat) (hp : HP) (v1 : Int32) (v2 : Int32) (v3 : Int32) (v4 : Int32) (v5 : Int32) (s0 : Int32) : Option ((Int32 × Int32) ⊕ Int32) :=
  (if s0 = 0 then some (Sum.inl (v4, (v5 + 1))) else (if v4 = (-1) then some (Sum.inl (v5, (v5 + 1))) else ((f_Mo_startOf c hp v3 v5).bind fun r10 => ((f_Mo_startOf c hp v3 v4).bind fun r11 => (if r10 ≤ r11 then some (Sum.inl (v4, (v5 + 1))) else some (Sum.inl (v5, (v5 + 1))))))))
noncomputable def f_Mo_latest_j61 (c : Nat) (hp : HP) (v1 : Int32) (v2 : Int32) (v3 : Int32) (v4 : Int32) (v5 : Int32)  : Option ((Int32 × Int32) ⊕ Int32) :=
  ((f_Mo_startOf c hp v3 v5).bind fun r13 => ((f_Mo_startOf c hp v1 v2).bind fun r14 => (if r14 < r13 then f_Mo_latest_j82 c hp v1 v2 v3 v4 v5 0 else f_Mo_latest_j82 c hp v1 v2 v3 v4 v5 1)))
noncomputable def f_Mo_latest_b21 (c : Nat) (hp : HP) (v1 : Int32) (v2 : Int32) (v3 : Int32) (v4 : Int32) (v5 : Int32) : Option ((Int32 × Int32) ⊕ Int32) :=
  (if inb (2 + v3) 4100 then (if (hp.1 (c + 1) (ix (2 + v3))) ≤ v5 then Option.map Sum.inr (some v4) else (if v1 = 0 then ((f_Mo_isKeyed c hp v2 v5).bind fun r16 => (if r16 = 0 then f_Mo_latest_j82 c hp v1 v2 v3 v4 v5 0 else f_Mo_latest_j61 c hp v1 v2 v3 v4 v5 )) else ((f_Mo_isKeyed c hp v5 v2).bind fun r6 => (if r6 = 0 then f_Mo_latest_j82 c hp v1 v2 v3 v4 v5 0 else f_Mo_latest_j61 c hp v1 v2 v3 v4 v5 )))) else none)
noncomputable def f_Mo_latest_l21 (c : Nat) (hp : HP) (v1 : Int32) (v2 : Int32) (v3 : Int32) (s : (Int32 × Int32)) : Option Int32 :=
  loop (fun s : (Int32 × Int32) => f_Mo_latest_b21 c hp v1 v2 v3 s.1 s.2) s
noncomputable def f_Mo_latest (c : Nat) (hp : HP) (v1 : Int32) (v2 : Int32) : Option Int32 :=
  ((f_Mo_isRow c hp v1 v2).bind fun r1 => (if r1 = 0 then some (-1) else f_Mo_latest_l21 c hp v1 v2 (1 - v1) ((-1), 0)))
noncomputable def f_Mo_matched_j44 (c : Nat) (hp : HP) (v1 : Int32) (v2 : Int32) (v3 : Int64) (v5 : Int32) (s0 : Int32) : Option ((Int64 × Int32) ⊕ Int64) :=
  (if s0 = v2 then some (Sum.inl ((v3 ||| (1 <<< (Int32.toInt64 v5 &&& 63))), (v5 + 1))) else some (Sum.inl (v3, (v5 + 1))))
noncomputable def f_Mo_matched_b16 (c : Nat) (hp : HP) (v1 : Int32) (v2 : Int32) (v3 : Int64) (v5 : Int32) : Option ((Int64 × Int32) ⊕ Int64) :=
  (if inb (2 + v1) 4100 then (if (hp.1 (c + 1) (ix (2 + v1))) ≤ v5 then Option.map Sum.inr (some v3) else ((f_Mo_partners c hp v1 v5).bind fun r5 => (if r5 ≤ 0 then f_Mo_matched_j44 c hp v1 v2 v3 v5 0 else f_Mo_matched_j44 c hp v1 v2 v3 v5 1))) else none)
noncomputable def f_Mo_matched_l16 (c : Nat) (hp : HP) (v1 : Int32) (v2 : Int32) (s : (Int64 × Int32)) : Option Int64 :=
  loop (fun s : (Int64 × Int32) => f_Mo_matched_b16 c hp v1 v2 s.1 s.2) s
noncomputable def f_Mo_matched (c : Nat) (hp : HP) (v1 : Int32) (v2 : Int32) : Option Int64 :=
  ((f_Mo_isSide v1).bind fun r1 => (if r1 = 0 then some (-1) else f_Mo_matched_l16 c hp v1 v2 (0, 0)))
noncomputable def f_Mo_isLaned_b3 (c : Nat) (hp : HP) (v1 : Int32) (v2 : Int32) (v3 : Int32) (v4 : Int32) : Option ((Int32) ⊕ Int32) :=
  (if inb (2 + v1) 4100 then (if (hp.1 (c + 1) (ix (2 + v1))) ≤ v4 then Option.map Sum.inr (some 0) else (if inb v4 40 then (if (hp.1 (c + 8) (ix v4)) = v3 then ((f_Mo_of c hp v1 v4 1).bind fun r5 => ((f_Mo_of c hp v1 v2 1).bind fun r6 => (if r5 = r6 then ((f_Mo_doShare c hp v1 v2 v4).bind fun r8 => (if r8 = 0 then some (Sum.inl (v4 + 1)) else Option.map Sum.inr (some 1))) else some (Sum.inl (v4 + 1))))) else some (Sum.inl (v4 + 1))) else none)) else none)
noncomputable def f_Mo_isLaned_l3 (c : Nat) (hp : HP) (v1 : Int32) (v2 : Int32) (v3 : Int32) (s : (Int32)) : Option Int32 :=
  loop (fun s : (Int32) => f_Mo_isLaned_b3 c hp v1 v2 v3 s) s
noncomputable def f_Mo_isLaned (c : Nat) (hp : HP) (v1 : Int32) (v2 : Int32) (v3 : Int32) : Option Int32 :=
  f_Mo_isLaned_l3 c hp v1 v2 v3 0
noncomputable def f_Mo_nextToLane_b5 (c : Nat) (hp : HP) (v1 : Int32) (v2 : Int32) (v3 : Int32) (v4 : Int32) : Option ((Int32 × Int32) ⊕ Int32) :=
  (if inb (2 + v1) 4100 then (if (hp.1 (c + 1) (ix (2 + v1))) ≤ v4 then Option.map Sum.inr (some v3) else (if inb v4 40 then (if (hp.1 (c + 8) (ix v4)) = (-1) then ((f_Mo_of c hp v1 v4 1).bind fun r5 => (if r5 = v2 then (if v3 = (-1) then some (Sum.inl (v4, (v4 + 1))) else ((f_Mo_startOf c hp v1 v4).bind fun r8 => ((f_Mo_startOf c hp v1 v3).bind fun r9 => (if r9 ≤ r8 then some (Sum.inl (v3, (v4 + 1))) else some (Sum.inl (v4, (v4 + 1))))))) else some (Sum.inl (v3, (v4 + 1))))) else some (Sum.inl (v3, (v4 + 1)))) else none)) else none)
noncomputable def f_Mo_nextToLane_l5 (c : Nat) (hp : HP) (v1 : Int32) (v2 : Int32) (s : (Int32 × Int32)) : Option Int32 :=
  loop (fun s : (Int32 × Int32) => f_Mo_nextToLane_b5 c hp v1 v2 s.1 s.2) s
noncomputable def f_Mo_nextToLane (c : Nat) (hp : HP) (v1 : Int32) (v2 : Int32) : Option Int32 :=
  f_Mo_nextToLane_l5 c hp v1 v2 ((-1), 0)
noncomputable def f_Mo_lane_b58 (c : Nat) (hp : HP) (v1 : Int32) (v2 : Int32) (v3 : Int32) (v4 : Int32) : Option ((Int32) ⊕ ((HP) ⊕ (HP × Int32))) :=
  ((f_Mo_isLaned c hp v1 v3 v4).bind fun r9 => (if r9 = 0 then Option.map Sum.inr ((if inb v3 40 then some (Sum.inl (upI hp (c + 8) (ix v3) v4)) else none)) else some (Sum.inl (v4 + 1))))
noncomputable def f_Mo_lane_l58 (c : Nat) (hp : HP) (v1 : Int32) (v2 : Int32) (v3 : Int32) (s : (Int32)) : Option ((HP) ⊕ (HP × Int32)) :=
  loop (fun s : (Int32) => f_Mo_lane_b58 c hp v1 v2 v3 s) s
noncomputable def f_Mo_lane_b32 (c : Nat) (hp : HP) (v1 : Int32) (v2 : Int32)  : Option ((HP) ⊕ (HP × Int32)) :=
  (if inb v2 40 then (if (hp.1 (c + 8) (ix v2)) = (-1) then ((f_Mo_of c hp v1 v2 1).bind fun r7 => ((f_Mo_nextToLane c hp v1 r7).bind fun r8 => f_Mo_lane_l58 c hp v1 v2 r8 0)) else Option.map Sum.inr ((if inb v2 40 then some (hp, (hp.1 (c + 8) (ix v2))) else none))) else none)
noncomputable def f_Mo_lane_l32 (c : Nat) (hp : HP) (v1 : Int32) (v2 : Int32) (s : (HP)) : Option (HP × Int32) :=
  loop (fun s : (HP) => f_Mo_lane_b32 c s v1 v2 ) s
noncomputable def f_Mo_lane_b13 (c : Nat) (hp : HP) (v1 : Int32) (v2 : Int32) (v3 : Int32) : Option ((HP × Int32) ⊕ (HP × Int32)) :=
  (if 40 ≤ v3 then Option.map Sum.inr (f_Mo_lane_l32 c hp v1 v2 hp) else (if inb v3 40 then some (Sum.inl ((upI hp (c + 8) (ix v3) (-1)), (v3 + 1))) else none))
noncomputable def f_Mo_lane_l13 (c : Nat) (hp : HP) (v1 : Int32) (v2 : Int32) (s : (HP × Int32)) : Option (HP × Int32) :=
  loop (fun s : (HP × Int32) => f_Mo_lane_b13 c s.1 v1 v2 s.2) s
noncomputable def f_Mo_lane (c : Nat) (hp : HP) (v1 : Int32) (v2 : Int32) : Option (HP × Int32) :=
  ((f_Mo_isRow c hp v1 v2).bind fun r1 => (if r1 = 0 then some (hp, (-1)) else f_Mo_lane_l13 c hp v1 v2 (hp, 0)))
noncomputable def f_Mo_chain_j79 (c : Nat) (hp : HP) (v1 : Int32) (v2 : Int32) (v3 : Int32) (v4 : Int32) (v5 : Int32) (v6 : Int32) (v7 : Int32)  : Option ((Int32 × Int32) ⊕ ((Int32 × Int32) ⊕ Int32)) :=
  (if v6 = (-1) then some (Sum.inl (v7, (v7 + 1))) else ((f_Mo_endOf c hp v1 v7).bind fun r14 => ((f_Mo_endOf c hp v1 v6).bind fun r15 => (if r15 ≤ r14 then some (Sum.inl (v6, (v7 + 1))) else some (Sum.inl (v7, (v7 + 1)))))))
noncomputable def f_Mo_chain_b28 (c : Nat) (hp : HP) (v1 : Int32) (v2 : Int32) (v3 : Int32) (v4 : Int32) (v5 : Int32) (v6 : Int32) (v7 : Int32) : Option ((Int32 × Int32) ⊕ ((Int32 × Int32) ⊕ Int32)) :=
  (if inb (2 + v1) 4100 then (if (hp.1 (c + 1) (ix (2 + v1))) ≤ v7 then Option.map Sum.inr ((if v6 = (-1) then Option.map Sum.inr ((if v3 = (-1) then some v5 else some (-1))) else (if v5 = v3 then Option.map Sum.inr (some v6) else some (Sum.inl (v6, (v5 + 1)))))) else ((f_Mo_of c hp v1 v7 1).bind fun r10 => (if r10 = v2 then (if v4 = (-1) then f_Mo_chain_j79 c hp v1 v2 v3 v4 v5 v6 v7  else ((f_Mo_startOf c hp v1 v7).bind fun r17 => ((f_Mo_endOf c hp v1 v4).bind fun r18 => (if r18 ≤ r17 then f_Mo_chain_j79 c hp v1 v2 v3 v4 v5 v6 v7  else some (Sum.inl (v6, (v7 + 1))))))) else some (Sum.inl (v6, (v7 + 1)))))) else none)
noncomputable def f_Mo_chain_l28 (c : Nat) (hp : HP) (v1 : Int32) (v2 : Int32) (v3 : Int32) (v4 : Int32) (v5 : Int32) (s : (Int32 × Int32)) : Option ((Int32 × Int32) ⊕ Int32) :=
  loop (fun s : (Int32 × Int32) => f_Mo_chain_b28 c hp v1 v2 v3 v4 v5 s.1 s.2) s
noncomputable def f_Mo_chain_b22 (c : Nat) (hp : HP) (v1 : Int32) (v2 : Int32) (v3 : Int32) (v4 : Int32) (v5 : Int32) : Option ((Int32 × Int32) ⊕ Int32) :=
  f_Mo_chain_l28 c hp v1 v2 v3 v4 v5 ((-1), 0)
noncomputable def f_Mo_chain_l22 (c : Nat) (hp : HP) (v1 : Int32) (v2 : Int32) (v3 : Int32) (s : (Int32 × Int32)) : Option Int32 :=
  loop (fun s : (Int32 × Int32) => f_Mo_chain_b22 c hp v1 v2 v3 s.1 s.2) s
noncomputable def f_Mo_chain (c : Nat) (hp : HP) (v1 : Int32) (v2 : Int32) (v3 : Int32) : Option Int32 :=
  ((f_Mo_isSide v1).bind fun r1 => (if r1 = 0 then some (-1) else ((f_Mo_isKey v2).bind fun r3 => (if r3 = 0 then some (-1) else f_Mo_chain_l22 c hp v1 v2 v3 ((-1), 0)))))
noncomputable def f_Mo_composesWith_b16 (c : Nat) (hp : HP) (v1 : Int32) (v2 : Int32) (v3 : Int32) (v4 : Int32) (v5 : Int32) (v6 : Int32) : Option ((HP × Int32) ⊕ ((HP × Int32) ⊕ HP)) :=
  (if 6 ≤ v6 then Option.map Sum.inr (some (Sum.inl (hp, (v5 + 1)))) else ((f_Mo_kindOf v1 v2 v3 v4).bind fun r3 => ((f_Mo_kindOf v3 v4 v5 v6).bind fun r4 => (if inb ((13 * r3) + r4) 169 then ((f_Mo_kindOf v1 v2 v5 v6).bind fun r6 => (if inb ((13 * r3) + r4) 169 then some (Sum.inl ((upI hp (c + 9) (ix ((13 * r3) + r4)) ((hp.1 (c + 9) (ix ((13 * r3) + r4))) ||| (1 <<< (r6 &&& 31)))), (v6 + 1))) else none)) else none))))
noncomputable def f_Mo_composesWith_l16 (c : Nat) (hp : HP) (v1 : Int32) (v2 : Int32) (v3 : Int32) (v4 : Int32) (v5 : Int32) (s : (HP × Int32)) : Option ((HP × Int32) ⊕ HP) :=
  loop (fun s : (HP × Int32) => f_Mo_composesWith_b16 c s.1 v1 v2 v3 v4 v5 s.2) s
noncomputable def f_Mo_composesWith_b3 (c : Nat) (hp : HP) (v1 : Int32) (v2 : Int32) (v3 : Int32) (v4 : Int32) (v5 : Int32) : Option ((HP × Int32) ⊕ HP) :=
  (if 6 ≤ v5 then Option.map Sum.inr (some hp) else f_Mo_composesWith_l16 c hp v1 v2 v3 v4 v5 (hp, (v5 + 1)))
noncomputable def f_Mo_composesWith_l3 (c : Nat) (hp : HP) (v1 : Int32) (v2 : Int32) (v3 : Int32) (v4 : Int32) (s : (HP × Int32)) : Option HP :=
  loop (fun s : (HP × Int32) => f_Mo_composesWith_b3 c s.1 v1 v2 v3 v4 s.2) s
noncomputable def f_Mo_composesWith (c : Nat) (hp : HP) (v1 : Int32) (v2 : Int32) (v3 : Int32) (v4 : Int32) : Option HP :=
  f_Mo_composesWith_l3 c hp v1 v2 v3 v4 (hp, 0)
noncomputable def f_Mo_composes_b36 (c : Nat) (hp : HP) (v1 : Int32) (v2 : Int32) (v3 : Int32) (v4 : Int32) : Option ((HP × Int32) ⊕ ((HP × Int32) ⊕ ((HP × Int32) ⊕ ((HP × Int32) ⊕ HP)))) :=
  (if 6 ≤ v4 then Option.map Sum.inr (some (Sum.inl (hp, (v3 + 1)))) else ((f_Mo_composesWith c hp v1 v2 v3 v4).bind fun h6 => some (Sum.inl (h6, (v4 + 1)))))
noncomputable def f_Mo_composes_l36 (c : Nat) (hp : HP) (v1 : Int32) (v2 : Int32) (v3 : Int32) (s : (HP × Int32)) : Option ((HP × Int32) ⊕ ((HP × Int32) ⊕ ((HP × Int32) ⊕ HP))) :=
  loop (fun s : (HP × Int32) => f_Mo_composes_b36 c s.1 v1 v2 v3 s.2) s
noncomputable def f_Mo_composes_b25 (c : Nat) (hp : HP) (v1 : Int32) (v2 : Int32) (v3 : Int32) : Option ((HP × Int32) ⊕ ((HP × Int32) ⊕ ((HP × Int32) ⊕ HP))) :=
  (if 6 ≤ v3 then Option.map Sum.inr (some (Sum.inl (hp, (v2 + 1)))) else f_Mo_composes_l36 c hp v1 v2 v3 (hp, (v3 + 1)))
noncomputable def f_Mo_composes_l25 (c : Nat) (hp : HP) (v1 : Int32) (v2 : Int32) (s : (HP × Int32)) : Option ((HP × Int32) ⊕ ((HP × Int32) ⊕ HP)) :=
  loop (fun s : (HP × Int32) => f_Mo_composes_b25 c s.1 v1 v2 s.2) s
noncomputable def f_Mo_composes_b17 (c : Nat) (hp : HP) (v1 : Int32) (v2 : Int32) : Option ((HP × Int32) ⊕ ((HP × Int32) ⊕ HP)) :=
  (if 6 ≤ v2 then Option.map Sum.inr (some (Sum.inl (hp, (v1 + 1)))) else f_Mo_composes_l25 c hp v1 v2 (hp, 0))
noncomputable def f_Mo_composes_l17 (c : Nat) (hp : HP) (v1 : Int32) (s : (HP × Int32)) : Option ((HP × Int32) ⊕ HP) :=
  loop (fun s : (HP × Int32) => f_Mo_composes_b17 c s.1 v1 s.2) s
noncomputable def f_Mo_composes_b7 (c : Nat) (hp : HP)  (v1 : Int32) : Option ((HP × Int32) ⊕ HP) :=
  (if 6 ≤ v1 then Option.map Sum.inr (some hp) else f_Mo_composes_l17 c hp v1 (hp, (v1 + 1)))
noncomputable def f_Mo_composes_l7 (c : Nat) (hp : HP)  (s : (HP × Int32)) : Option HP :=
  loop (fun s : (HP × Int32) => f_Mo_composes_b7 c s.1  s.2) s
noncomputable def f_Mo_composes (c : Nat) (hp : HP)  : Option HP :=
  f_Mo_composes_l7 c (upI hp c 12 1)  ((upI hp c 12 1), 0)
noncomputable def f_Mo_composedOf_b26 (c : Nat) (hp : HP) (v1 : Int32) (v2 : Int32) (v4 : Int32) (v3 : Int32) (v5 : Int32) : Option ((Int32 × Int32) ⊕ ((Int32 × Int32) ⊕ (HP × Int32))) :=
  (if 13 ≤ v5 then Option.map Sum.inr (some (Sum.inl (v3, (v4 + 1)))) else ((f_Mo_has v1 v4).bind fun r4 => (if r4 = 0 then some (Sum.inl (v3, (v5 + 1))) else ((f_Mo_has v2 v5).bind fun r6 => (if r6 = 0 then some (Sum.inl (v3, (v5 + 1))) else (if inb ((13 * v4) + v5) 169 then some (Sum.inl ((v3 ||| (hp.1 (c + 9) (ix ((13 * v4) + v5)))), (v5 + 1))) else none))))))
noncomputable def f_Mo_composedOf_l26 (c : Nat) (hp : HP) (v1 : Int32) (v2 : Int32) (v4 : Int32) (s : (Int32 × Int32)) : Option ((Int32 × Int32) ⊕ (HP × Int32)) :=
  loop (fun s : (Int32 × Int32) => f_Mo_composedOf_b26 c hp v1 v2 v4 s.1 s.2) s
noncomputable def f_Mo_composedOf_b16 (c : Nat) (hp : HP) (v1 : Int32) (v2 : Int32) (v3 : Int32) (v4 : Int32) : Option ((Int32 × Int32) ⊕ (HP × Int32)) :=
  (if 13 ≤ v4 then Option.map Sum.inr (some (hp, v3)) else f_Mo_composedOf_l26 c hp v1 v2 v4 (v3, 0))
noncomputable def f_Mo_composedOf_l16 (c : Nat) (hp : HP) (v1 : Int32) (v2 : Int32) (s : (Int32 × Int32)) : Option (HP × Int32) :=
  loop (fun s : (Int32 × Int32) => f_Mo_composedOf_b16 c hp v1 v2 s.1 s.2) s
noncomputable def f_Mo_composedOf (c : Nat) (hp : HP) (v1 : Int32) (v2 : Int32) : Option (HP × Int32) :=
  (if (hp.1 c 12) = 0 then ((f_Mo_composes c hp).bind fun h10 => f_Mo_composedOf_l16 c h10 v1 v2 (0, 0)) else f_Mo_composedOf_l16 c hp v1 v2 (0, 0))
noncomputable def f_Mo_converseOf_b4 (v0 : Int32) (v1 : Int32) (v2 : Int32) : Option ((Int32 × Int32) ⊕ Int32) :=
  (if 13 ≤ v2 then Option.map Sum.inr (some v1) else some (Sum.inl ((v1 ||| (((v0 >>> (v2 &&& 31)) &&& 1) <<< ((12 - v2) &&& 31))), (v2 + 1))))
noncomputable def f_Mo_converseOf_l4 (v0 : Int32) (s : (Int32 × Int32)) : Option Int32 :=
  loop (fun s : (Int32 × Int32) => f_Mo_converseOf_b4 v0 s.1 s.2) s
noncomputable def f_Mo_converseOf (v0 : Int32) : Option Int32 :=
  f_Mo_converseOf_l4 v0 (0, 0)
noncomputable def f_Mo_isKinds (v0 : Int32) : Option Int32 :=
  ((f_Mo_isIn v0 0 8191).bind fun r1 => (if (r1 = 0 ∨ r1 = 1) then some r1 else none))
noncomputable def f_Mo_converse (c : Nat) (hp : HP) (v1 : Int32) : Option Int32 :=
  ((f_Mo_isKinds v1).bind fun r1 => (if r1 = 0 then some (-1) else ((f_Mo_converseOf v1).bind fun r3 => some r3)))
noncomputable def f_Mo_compose (c : Nat) (hp : HP) (v1 : Int32) (v2 : Int32) : Option (HP × Int32) :=
  ((f_Mo_isKinds v1).bind fun r1 => (if r1 = 0 then some (hp, (-1)) else ((f_Mo_isKinds v2).bind fun r3 => (if r3 = 0 then some (hp, (-1)) else ((f_Mo_composedOf c hp v1 v2).bind fun p_r5 => some (p_r5.1, p_r5.2))))))
noncomputable def f_Mo_isName (v0 : Int32) : Option Int32 :=
  ((f_Mo_isIn v0 0 5).bind fun r1 => (if (r1 = 0 ∨ r1 = 1) then some r1 else none))
noncomputable def f_Mo_ties (c : Nat) (hp : HP) (v1 : Int32) (v2 : Int32) (v3 : Int32) : Option HP :=
  (if inb ((4064 + (6 * v1)) + v2) 4100 then ((f_Mo_converseOf v3).bind fun r2 => (if inb ((4064 + (6 * v2)) + v1) 4100 then some (upI (upI hp (c + 1) (ix ((4064 + (6 * v1)) + v2)) v3) (c + 1) (ix ((4064 + (6 * v2)) + v1)) r2) else none)) else none)
noncomputable def f_Mo_net (c : Nat) (hp : HP) (v1 : Int32) (v2 : Int32) (v3 : Int32) : Option (HP × Int32) :=
  ((f_Mo_isName v1).bind fun r1 => (if r1 = 0 then some (hp, 0) else ((f_Mo_isName v2).bind fun r3 => (if r3 = 0 then some (hp, 0) else (if v1 = v2 then some (hp, 0) else ((f_Mo_isKinds v3).bind fun r6 => (if r6 = 0 then some (hp, 0) else ((f_Mo_ties c hp v1 v2 v3).bind fun h9 => some (h9, 1)))))))))
noncomputable def f_Mo_isTighter (c : Nat) (hp : HP) (v1 : Int32) (v2 : Int32) (v3 : Int32) : Option (HP × Int32) :=
  (if inb ((6 * v1) + v3) 36 then if inb ((6 * v1) + v2) 36 then if inb ((6 * v2) + v3) 36 then ((f_Mo_composedOf c hp (hp.1 (c + 10) (ix ((6 * v1) + v2))) (hp.1 (c + 10) (ix ((6 * v2) + v3)))).bind fun p_r4 => (if inb ((6 * v1) + v3) 36 then if inb ((6 * v1) + v3) 36 then (if ((upI p_r4.1 (c + 10) (ix ((6 * v1) + v3)) ((hp.1 (c + 10) (ix ((6 * v1) + v3))) &&& p_r4.2)).1 (c + 10) (ix ((6 * v1) + v3))) = (hp.1 (c + 10) (ix ((6 * v1) + v3))) then some ((upI p_r4.1 (c + 10) (ix ((6 * v1) + v3)) ((hp.1 (c + 10) (ix ((6 * v1) + v3))) &&& p_r4.2)), 0) else some ((upI p_r4.1 (c + 10) (ix ((6 * v1) + v3)) ((hp.1 (c + 10) (ix ((6 * v1) + v3))) &&& p_r4.2)), 1)) else none else none)) else none else none else none)
noncomputable def f_Mo_tightens_b57 (c : Nat) (hp : HP) (v2 : Int32) (v3 : Int32) (v1 : Int32) (v4 : Int32) : Option ((HP × Int32 × Int32) ⊕ ((HP × Int32 × Int32) ⊕ ((HP × Int32 × Int32) ⊕ ((HP × Int32) ⊕ HP)))) :=
  (if 6 ≤ v4 then Option.map Sum.inr (some (Sum.inl (hp, v1, (v3 + 1)))) else (if v2 = v3 then some (Sum.inl (hp, v1, (v4 + 1))) else (if v3 = v4 then some (Sum.inl (hp, v1, (v4 + 1))) else (if v2 = v4 then some (Sum.inl (hp, v1, (v4 + 1))) else ((f_Mo_isTighter c hp v2 v3 v4).bind fun p_r9 => (if p_r9.2 = 0 then some (Sum.inl (p_r9.1, v1, (v4 + 1))) else some (Sum.inl (p_r9.1, 1, (v4 + 1)))))))))
noncomputable def f_Mo_tightens_l57 (c : Nat) (hp : HP) (v2 : Int32) (v3 : Int32) (s : (HP × Int32 × Int32)) : Option ((HP × Int32 × Int32) ⊕ ((HP × Int32 × Int32) ⊕ ((HP × Int32) ⊕ HP))) :=
  loop (fun s : (HP × Int32 × Int32) => f_Mo_tightens_b57 c s.1 v2 v3 s.2.1 s.2.2) s
noncomputable def f_Mo_tightens_b48 (c : Nat) (hp : HP) (v2 : Int32) (v1 : Int32) (v3 : Int32) : Option ((HP × Int32 × Int32) ⊕ ((HP × Int32 × Int32) ⊕ ((HP × Int32) ⊕ HP))) :=
  (if 6 ≤ v3 then Option.map Sum.inr (some (Sum.inl (hp, v1, (v2 + 1)))) else f_Mo_tightens_l57 c hp v2 v3 (hp, v1, 0))
noncomputable def f_Mo_tightens_l48 (c : Nat) (hp : HP) (v2 : Int32) (s : (HP × Int32 × Int32)) : Option ((HP × Int32 × Int32) ⊕ ((HP × Int32) ⊕ HP)) :=
  loop (fun s : (HP × Int32 × Int32) => f_Mo_tightens_b48 c s.1 v2 s.2.1 s.2.2) s
noncomputable def f_Mo_tightens_b40 (c : Nat) (hp : HP)  (v1 : Int32) (v2 : Int32) : Option ((HP × Int32 × Int32) ⊕ ((HP × Int32) ⊕ HP)) :=
  (if 6 ≤ v2 then Option.map Sum.inr (some (Sum.inl (hp, v1))) else f_Mo_tightens_l48 c hp v2 (hp, v1, 0))
noncomputable def f_Mo_tightens_l40 (c : Nat) (hp : HP)  (s : (HP × Int32 × Int32)) : Option ((HP × Int32) ⊕ HP) :=
  loop (fun s : (HP × Int32 × Int32) => f_Mo_tightens_b40 c s.1  s.2.1 s.2.2) s
noncomputable def f_Mo_tightens_b32 (c : Nat) (hp : HP)  (v1 : Int32) : Option ((HP × Int32) ⊕ HP) :=
  (if v1 = 0 then Option.map Sum.inr (some hp) else f_Mo_tightens_l40 c hp  (hp, 0, 0))
noncomputable def f_Mo_tightens_l32 (c : Nat) (hp : HP)  (s : (HP × Int32)) : Option HP :=
  loop (fun s : (HP × Int32) => f_Mo_tightens_b32 c s.1  s.2) s
noncomputable def f_Mo_tightens_b2 (c : Nat) (hp : HP)  (v1 : Int32) : Option ((HP × Int32) ⊕ HP) :=
  (if 36 ≤ v1 then Option.map Sum.inr (f_Mo_tightens_l32 c hp  (hp, 1)) else (if inb (4064 + v1) 4100 then if inb v1 36 then some (Sum.inl ((upI hp (c + 10) (ix v1) (hp.1 (c + 1) (ix (4064 + v1)))), (v1 + 1))) else none else none))
noncomputable def f_Mo_tightens_l2 (c : Nat) (hp : HP)  (s : (HP × Int32)) : Option HP :=
  loop (fun s : (HP × Int32) => f_Mo_tightens_b2 c s.1  s.2) s
noncomputable def f_Mo_tightens (c : Nat) (hp : HP)  : Option HP :=
  f_Mo_tightens_l2 c hp  (hp, 0)
noncomputable def f_Mo_between (c : Nat) (hp : HP) (v1 : Int32) (v2 : Int32) (v3 : Int32) : Option (HP × Int32) :=
  ((f_Mo_isName v1).bind fun r1 => (if r1 = 0 then some (hp, (-1)) else ((f_Mo_isName v2).bind fun r3 => (if r3 = 0 then some (hp, (-1)) else (if v3 = 0 then (if inb ((4064 + (6 * v1)) + v2) 4100 then some (hp, (hp.1 (c + 1) (ix ((4064 + (6 * v1)) + v2)))) else none) else ((f_Mo_tightens c hp).bind fun h7 => (if inb ((6 * v1) + v2) 36 then some (h7, (h7.1 (c + 10) (ix ((6 * v1) + v2)))) else none)))))))
noncomputable def f_Mo_sound_b6 (c : Nat) (hp : HP)  (v1 : Int32) : Option ((Int32) ⊕ (HP × Int32)) :=
  (if 36 ≤ v1 then Option.map Sum.inr (some (hp, 1)) else (if inb v1 36 then (if (hp.1 (c + 10) (ix v1)) = 0 then Option.map Sum.inr (some (hp, 0)) else some (Sum.inl (v1 + 1))) else none))
noncomputable def f_Mo_sound_l6 (c : Nat) (hp : HP)  (s : (Int32)) : Option (HP × Int32) :=
  loop (fun s : (Int32) => f_Mo_sound_b6 c hp  s) s
noncomputable def f_Mo_sound (c : Nat) (hp : HP)  : Option (HP × Int32) :=
  ((f_Mo_tightens c hp).bind fun h2 => f_Mo_sound_l6 c h2  0)
noncomputable def f_Mo_lay_j74 (c : Nat) (hp : HP) (v1 : Int32) (v2 : Int32) (v3 : Int32) (v4 : Int32) (s0 : Int32) (s1 : Int32) (s2 : Int32) (s3 : Nat) : Option ((HP × Int32) ⊕ ((HP × Int32) ⊕ (HP × Int32))) :=
  ((f_Mo_ties s3 hp s2 s1 s0).bind fun h11 => some (Sum.inl (h11, (v4 + 1))))
noncomputable def f_Mo_lay_b42 (c : Nat) (hp : HP) (v1 : Int32) (v2 : Int32) (v3 : Int32) (v4 : Int32) : Option ((HP × Int32) ⊕ ((HP × Int32) ⊕ (HP × Int32))) :=
  (if v3 ≤ v4 then Option.map Sum.inr (some (Sum.inl (hp, (v3 + 1)))) else (if v2 ≤ v3 then f_Mo_lay_j74 c hp v1 v2 v3 v4 8191 v4 v3 c else ((f_Mo_kindBetween c hp v1 v3 v1 v4).bind fun r12 => f_Mo_lay_j74 c hp v1 v2 v3 v4 (1 <<< (r12 &&& 31)) v4 v3 c)))
noncomputable def f_Mo_lay_l42 (c : Nat) (hp : HP) (v1 : Int32) (v2 : Int32) (v3 : Int32) (s : (HP × Int32)) : Option ((HP × Int32) ⊕ (HP × Int32)) :=
  loop (fun s : (HP × Int32) => f_Mo_lay_b42 c s.1 v1 v2 v3 s.2) s
noncomputable def f_Mo_lay_b33 (c : Nat) (hp : HP) (v1 : Int32) (v2 : Int32) (v3 : Int32) : Option ((HP × Int32) ⊕ (HP × Int32)) :=
  (if 6 ≤ v3 then Option.map Sum.inr (some (hp, 1)) else f_Mo_lay_l42 c hp v1 v2 v3 (hp, 0))
noncomputable def f_Mo_lay_l33 (c : Nat) (hp : HP) (v1 : Int32) (v2 : Int32) (s : (HP × Int32)) : Option (HP × Int32) :=
  loop (fun s : (HP × Int32) => f_Mo_lay_b33 c s.1 v1 v2 s.2) s
noncomputable def f_Mo_lay (c : Nat) (hp : HP) (v1 : Int32) (v2 : Int32) : Option (HP × Int32) :=
  ((f_Mo_isSide v1).bind fun r1 => (if r1 = 0 then some (hp, 0) else ((f_Mo_isIn v2 2 6).bind fun r3 => (if r3 = 0 then some (hp, 0) else (if inb (2 + v1) 4100 then (if v2 ≤ (hp.1 (c + 1) (ix (2 + v1))) then f_Mo_lay_l33 c hp v1 v2 (hp, 0) else some (hp, 0)) else none)))))
noncomputable def f_Mo_image_b15 (c : Nat) (hp : HP) (v1 : Int32) (v2 : Int32) : Option ((HP × Int32) ⊕ (HP × Int32)) :=
  (if 4100 ≤ v2 then Option.map Sum.inr (some ((upI hp c 2 1), 1)) else (if v1 = 0 then (if inb v2 4100 then if inb v2 4100 then some (Sum.inl ((upI hp (c + 1) (ix v2) (hp.1 (c + 2) (ix v2))), (v2 + 1))) else none else none) else (if inb v2 4100 then if inb v2 4100 then some (Sum.inl ((upI hp (c + 2) (ix v2) (hp.1 (c + 1) (ix v2))), (v2 + 1))) else none else none)))
noncomputable def f_Mo_image_l15 (c : Nat) (hp : HP) (v1 : Int32) (s : (HP × Int32)) : Option (HP × Int32) :=
  loop (fun s : (HP × Int32) => f_Mo_image_b15 c s.1 v1 s.2) s
noncomputable def f_Mo_image (c : Nat) (hp : HP) (v1 : Int32) : Option (HP × Int32) :=
  (if v1 = 0 then (if (hp.1 c 2) = 0 then some (hp, 0) else f_Mo_image_l15 c hp v1 (hp, 0)) else f_Mo_image_l15 c hp v1 (hp, 0))
noncomputable def f_Mo_mostPartners_b11 (c : Nat) (hp : HP) (v2 : Int32) (v1 : Int32) (v3 : Int32) : Option ((Int32 × Int32) ⊕ ((Int32 × Int32) ⊕ Int32)) :=
  (if inb (2 + v2) 4100 then (if (hp.1 (c + 1) (ix (2 + v2))) ≤ v3 then Option.map Sum.inr (some (Sum.inl (v1, (v2 + 1)))) else ((f_Mo_partners c hp v2 v3).bind fun r4 => ((f_Mo_more v1 r4).bind fun r5 => some (Sum.inl (r5, (v3 + 1)))))) else none)
noncomputable def f_Mo_mostPartners_l11 (c : Nat) (hp : HP) (v2 : Int32) (s : (Int32 × Int32)) : Option ((Int32 × Int32) ⊕ Int32) :=
  loop (fun s : (Int32 × Int32) => f_Mo_mostPartners_b11 c hp v2 s.1 s.2) s
noncomputable def f_Mo_mostPartners_b4 (c : Nat) (hp : HP)  (v1 : Int32) (v2 : Int32) : Option ((Int32 × Int32) ⊕ Int32) :=
  (if 2 ≤ v2 then Option.map Sum.inr (some v1) else f_Mo_mostPartners_l11 c hp v2 (v1, 0))
noncomputable def f_Mo_mostPartners_l4 (c : Nat) (hp : HP)  (s : (Int32 × Int32)) : Option Int32 :=
  loop (fun s : (Int32 × Int32) => f_Mo_mostPartners_b4 c hp  s.1 s.2) s
noncomputable def f_Mo_mostPartners (c : Nat) (hp : HP)  : Option Int32 :=
  f_Mo_mostPartners_l4 c hp  (0, 0)
noncomputable def f_Mo_runs_b15 (c : Nat) (hp : HP) (v1 : Int32) (v2 : Int32) (v3 : Int32) (v4 : Int32) (v5 : Int32) : Option ((Int32 × Int32) ⊕ ((Int32 × Int32) ⊕ Int32)) :=
  (if inb (2 + v1) 4100 then (if (hp.1 (c + 1) (ix (2 + v1))) ≤ v5 then Option.map Sum.inr ((if v4 = 0 then some (Sum.inl ((v2 + 0), (v3 + 1))) else some (Sum.inl ((v2 + 1), (v3 + 1))))) else (if v4 = 0 then ((f_Mo_of c hp v1 v5 0).bind fun r6 => (if r6 = v3 then some (Sum.inl (1, (v5 + 1))) else some (Sum.inl (0, (v5 + 1))))) else some (Sum.inl (1, (v5 + 1))))) else none)
noncomputable def f_Mo_runs_l15 (c : Nat) (hp : HP) (v1 : Int32) (v2 : Int32) (v3 : Int32) (s : (Int32 × Int32)) : Option ((Int32 × Int32) ⊕ Int32) :=
  loop (fun s : (Int32 × Int32) => f_Mo_runs_b15 c hp v1 v2 v3 s.1 s.2) s
noncomputable def f_Mo_runs_b4 (c : Nat) (hp : HP) (v1 : Int32) (v2 : Int32) (v3 : Int32) : Option ((Int32 × Int32) ⊕ Int32) :=
  (if 4 ≤ v3 then Option.map Sum.inr (some v2) else f_Mo_runs_l15 c hp v1 v2 v3 (0, 0))
noncomputable def f_Mo_runs_l4 (c : Nat) (hp : HP) (v1 : Int32) (s : (Int32 × Int32)) : Option Int32 :=
  loop (fun s : (Int32 × Int32) => f_Mo_runs_b4 c hp v1 s.1 s.2) s
noncomputable def f_Mo_runs (c : Nat) (hp : HP) (v1 : Int32) : Option Int32 :=
  f_Mo_runs_l4 c hp v1 (0, 0)
noncomputable def f_Mo_look (c : Nat) (hp : HP) (v1 : Int32) : Option Int32 :=
  (if v1 = 0 then some (hp.1 (c + 1) (ix 0)) else (if v1 = 1 then some (hp.1 (c + 1) (ix 1)) else (if v1 = 2 then (if inb ((2 + v1) - 2) 4100 then some (hp.1 (c + 1) (ix ((2 + v1) - 2))) else none) else (if v1 = 3 then (if inb ((2 + v1) - 2) 4100 then some (hp.1 (c + 1) (ix ((2 + v1) - 2))) else none) else (if v1 = 4 then some (hp.1 (c + 1) (ix 404)) else (if v1 = 5 then some (hp.1 (c + 1) (ix 614)) else (if v1 = 6 then some (hp.1 (c + 1) (ix 863)) else (if v1 = 7 then ((f_Mo_mostPartners c hp).bind fun r3 => some r3) else (if v1 = 8 then ((f_Mo_runs c hp (v1 - 8)).bind fun r4 => some r4) else (if v1 = 9 then ((f_Mo_runs c hp (v1 - 8)).bind fun r5 => some r5) else some (-1)))))))))))
