set_option maxHeartbeats 4000000 in
theorem sx1 {q : MI} {d : Nat} {sh : Shp} {pc : Nat} {lv : List (Option Value)} {stk : List Value} {hp : HP} {r : Option Value} {hp0 : HP} {z : Zn} (hok : okc q pc z = true) (h : wp1 sh z lv stk hp (fun lv' stk' hp' => Fx q d sh (pc + z.2.1) lv' stk' hp' r hp0)) : Fx q d sh pc lv stk hp r hp0 := by
  obtain ⟨ins, len, a, b, v⟩ := z
  simp only [okc, Bool.and_eq_true, decide_eq_true_eq] at hok
  obtain ⟨hd, hc⟩ := hok
  cases ins with
  | iconst n =>
    simp only [chk, Bool.and_eq_true, decide_eq_true_eq] at hc
    obtain ⟨rfl, rfl⟩ := hc
    exact Fx.mk1 h (fun _ _ _ _ _ _ _ _ _ _ _ _ _ C _ _ _ hh _ k => lv_iconst C.1.1 C.1.2.1 hd rfl k)
  | bipush n =>
    simp only [chk, Bool.and_eq_true, decide_eq_true_eq] at hc
    obtain ⟨rfl, rfl⟩ := hc
    exact Fx.mk1 h (fun _ _ _ _ _ _ _ _ _ _ _ _ _ C _ _ _ hh _ k => lv_bipush C.1.1 C.1.2.1 hd rfl k)
  | sipush n =>
    simp only [chk, Bool.and_eq_true, decide_eq_true_eq] at hc
    obtain ⟨rfl, rfl⟩ := hc
    exact Fx.mk1 h (fun _ _ _ _ _ _ _ _ _ _ _ _ _ C _ _ _ hh _ k => lv_sipush C.1.1 C.1.2.1 hd rfl k)
  | ldc n =>
    simp only [chk, Bool.and_eq_true, decide_eq_true_eq] at hc
    obtain ⟨rfl, hc⟩ := hc
    split at hc
    · simp only [decide_eq_true_eq] at hc
      exact Fx.mk1 h (fun _ _ _ _ _ _ _ _ _ _ _ _ _ C _ _ _ hh _ k => lv_ldc C.1.1 C.1.2.1 C.1.2.2.2.2.2.1 (C.1.2.2.2.2.2.2 _ (List.mem_cons_of_mem _ (KTL_ok _ hc))) hd k)
    · cases hc
  | ldc_w n =>
    simp only [chk, Bool.and_eq_true, decide_eq_true_eq] at hc
    obtain ⟨rfl, hc⟩ := hc
    split at hc
    · simp only [decide_eq_true_eq] at hc
      exact Fx.mk1 h (fun _ _ _ _ _ _ _ _ _ _ _ _ _ C _ _ _ hh _ k => lv_ldcw C.1.1 C.1.2.1 C.1.2.2.2.2.2.1 (C.1.2.2.2.2.2.2 _ (List.mem_cons_of_mem _ (KTL_ok _ hc))) hd k)
    · cases hc
  | lconst n =>
    simp only [chk, Bool.and_eq_true, decide_eq_true_eq] at hc
    obtain ⟨rfl, rfl⟩ := hc
    exact Fx.mk1 h (fun _ _ _ _ _ _ _ _ _ _ _ _ _ C _ _ _ hh _ k => lv_lconst C.1.1 C.1.2.1 hd rfl k)
  | ldc2_w n =>
    simp only [chk, Bool.and_eq_true, decide_eq_true_eq] at hc
    obtain ⟨rfl, hc⟩ := hc
    split at hc
    · simp only [decide_eq_true_eq] at hc
      exact Fx.mk1 h (fun _ _ _ _ _ _ _ _ _ _ _ _ _ C _ _ _ hh _ k => W.ldc2 C.1.1 C.1.2.1 C.1.2.2.2.2.2.1 (C.1.2.2.2.2.2.2 _ (List.mem_cons_of_mem _ (LTL_ok _ hc))) rfl hd k)
    · cases hc
  | iload_n n =>
    simp only [chk, Bool.and_eq_true, decide_eq_true_eq] at hc
    obtain ⟨rfl, hk⟩ := hc
    simp only [wp1] at h
    split at h
    · rename_i x hx
      exact Fx.mk1 h (fun _ _ _ _ _ _ _ _ _ _ _ _ _ C _ _ _ hh _ k => lv_iload_n C.1.1 C.1.2.1 hd hk (hh.1.2.2.2 _ _ hx) k)
    · exact h.elim
  | iload n =>
    simp only [chk, Bool.and_eq_true, decide_eq_true_eq] at hc
    obtain ⟨rfl, rfl⟩ := hc
    simp only [wp1] at h
    split at h
    · rename_i x hx
      exact Fx.mk1 h (fun _ _ _ _ _ _ _ _ _ _ _ _ _ C _ _ _ hh _ k => lv_iload C.1.1 C.1.2.1 hd (hh.1.2.2.2 _ _ hx) k)
    · exact h.elim
  | lload_n n =>
    simp only [chk, Bool.and_eq_true, decide_eq_true_eq] at hc
    obtain ⟨rfl, hk⟩ := hc
    simp only [wp1] at h
    split at h
    · rename_i x hx
      exact Fx.mk1 h (fun _ _ _ _ _ _ _ _ _ _ _ _ _ C _ _ _ hh _ k => lv_lload_n C.1.1 C.1.2.1 hd hk (hh.1.2.2.2 _ _ hx) k)
    · exact h.elim
  | lload n =>
    simp only [chk, Bool.and_eq_true, decide_eq_true_eq] at hc
    obtain ⟨rfl, rfl⟩ := hc
    simp only [wp1] at h
    split at h
    · rename_i x hx
      exact Fx.mk1 h (fun _ _ _ _ _ _ _ _ _ _ _ _ _ C _ _ _ hh _ k => lv_lload C.1.1 C.1.2.1 hd (hh.1.2.2.2 _ _ hx) k)
    · exact h.elim
  | aload_n n =>
    simp only [chk, Bool.and_eq_true, decide_eq_true_eq] at hc
    obtain ⟨rfl, hk⟩ := hc
    simp only [wp1] at h
    split at h
    · rename_i x hx
      exact Fx.mk1 h (fun _ _ _ _ _ _ _ _ _ _ _ _ _ C _ _ _ hh _ k => lv_aload_n C.1.1 C.1.2.1 hd hk (hh.1.2.2.2 _ _ hx) k)
    · exact h.elim
  | aload n =>
    simp only [chk, Bool.and_eq_true, decide_eq_true_eq] at hc
    obtain ⟨rfl, rfl⟩ := hc
    simp only [wp1] at h
    split at h
    · rename_i x hx
      exact Fx.mk1 h (fun _ _ _ _ _ _ _ _ _ _ _ _ _ C _ _ _ hh _ k => lv_aload C.1.1 C.1.2.1 hd (hh.1.2.2.2 _ _ hx) k)
    · exact h.elim
  | istore_n n =>
    simp only [chk, Bool.and_eq_true, decide_eq_true_eq] at hc
    obtain ⟨rfl, hk, hn⟩ := hc
    simp only [wp1] at h
    split at h
    · exact Fx.mkL h (fun _ _ _ _ _ _ _ _ _ _ _ _ _ C _ _ _ hl _ k => lv_istore_n C.1.1 C.1.2.1 hd hk hl.has hn rfl (fun ls' hl' => k ls' (hl.st1 hl')))
    · exact h.elim
  | istore n =>
    simp only [chk, Bool.and_eq_true, decide_eq_true_eq] at hc
    obtain ⟨rfl, rfl, hn⟩ := hc
    simp only [wp1] at h
    split at h
    · exact Fx.mkL h (fun _ _ _ _ _ _ _ _ _ _ _ _ _ C _ _ _ hl _ k => lv_istore C.1.1 C.1.2.1 hd hl.has hn rfl (fun ls' hl' => k ls' (hl.st1 hl')))
    · exact h.elim
  | astore_n n =>
    simp only [chk, Bool.and_eq_true, decide_eq_true_eq] at hc
    obtain ⟨rfl, hk, hn⟩ := hc
    simp only [wp1] at h
    split at h
    · exact Fx.mkL h (fun _ _ _ _ _ _ _ _ _ _ _ _ _ C _ _ _ hl _ k => lv_astore_n C.1.1 C.1.2.1 hd hk hl.has hn rfl (fun ls' hl' => k ls' (hl.st1 hl')))
    · exact h.elim
  | astore n =>
    simp only [chk, Bool.and_eq_true, decide_eq_true_eq] at hc
    obtain ⟨rfl, rfl, hn⟩ := hc
    simp only [wp1] at h
    split at h
    · exact Fx.mkL h (fun _ _ _ _ _ _ _ _ _ _ _ _ _ C _ _ _ hl _ k => lv_astore C.1.1 C.1.2.1 hd hl.has hn rfl (fun ls' hl' => k ls' (hl.st1 hl')))
    · exact h.elim
  | lstore_n n =>
    simp only [chk, Bool.and_eq_true, decide_eq_true_eq] at hc
    obtain ⟨rfl, hk, hn⟩ := hc
    simp only [wp1] at h
    split at h
    · exact Fx.mkL h (fun _ _ _ _ _ _ _ _ _ _ _ _ _ C _ _ _ hl _ k => lv_lstore_n C.1.1 C.1.2.1 hd hk hl.has hn rfl (fun ls' hl' => k ls' (hl.st2 hl')))
    · exact h.elim
  | lstore n =>
    simp only [chk, Bool.and_eq_true, decide_eq_true_eq] at hc
    obtain ⟨rfl, rfl, hn⟩ := hc
    simp only [wp1] at h
    split at h
    · exact Fx.mkL h (fun _ _ _ _ _ _ _ _ _ _ _ _ _ C _ _ _ hl _ k => lv_lstore C.1.1 C.1.2.1 hd hl.has hn rfl (fun ls' hl' => k ls' (hl.st2 hl')))
    · exact h.elim
  | iinc i n =>
    simp only [chk, Bool.and_eq_true, decide_eq_true_eq] at hc
    obtain ⟨rfl, rfl, hn, rfl⟩ := hc
    simp only [wp1] at h
    split at h
    · rename_i x hx
      exact Fx.mkL h (fun _ _ _ _ _ _ _ _ _ _ _ _ _ C _ _ _ hl _ k => by
        obtain ⟨kk, hkk⟩ := List.getElem?_of_mem (lvL_mem (ad := _) (ct := _) hx)
        exact lv_iinc C.1.1 C.1.2.1 hd hl.has hkk rfl hn rfl (fun ls' hl' => k ls' (hl.st1 (v := .int _) hl')))
    · exact h.elim
  | iadd =>
    simp only [chk, Bool.and_eq_true, decide_eq_true_eq] at hc
    subst hc
    simp only [wp1] at h
    split at h
    · exact Fx.mk1 h (fun _ _ _ _ _ _ _ _ _ _ _ _ _ C _ _ _ hh _ k => lv_iadd C.1.1 C.1.2.1 hd k)
    · exact h.elim
  | isub =>
    simp only [chk, Bool.and_eq_true, decide_eq_true_eq] at hc
    subst hc
    simp only [wp1] at h
    split at h
    · exact Fx.mk1 h (fun _ _ _ _ _ _ _ _ _ _ _ _ _ C _ _ _ hh _ k => lv_isub C.1.1 C.1.2.1 hd k)
    · exact h.elim
  | imul =>
    simp only [chk, Bool.and_eq_true, decide_eq_true_eq] at hc
    subst hc
    simp only [wp1] at h
    split at h
    · exact Fx.mk1 h (fun _ _ _ _ _ _ _ _ _ _ _ _ _ C _ _ _ hh _ k => lv_imul C.1.1 C.1.2.1 hd k)
    · exact h.elim
  | iand =>
    simp only [chk, Bool.and_eq_true, decide_eq_true_eq] at hc
    subst hc
    simp only [wp1] at h
    split at h
    · exact Fx.mk1 h (fun _ _ _ _ _ _ _ _ _ _ _ _ _ C _ _ _ hh _ k => lv_iand C.1.1 C.1.2.1 hd k)
    · exact h.elim
  | ior =>
    simp only [chk, Bool.and_eq_true, decide_eq_true_eq] at hc
    subst hc
    simp only [wp1] at h
    split at h
    · exact Fx.mk1 h (fun _ _ _ _ _ _ _ _ _ _ _ _ _ C _ _ _ hh _ k => lv_ior C.1.1 C.1.2.1 hd k)
    · exact h.elim
  | ishl =>
    simp only [chk, Bool.and_eq_true, decide_eq_true_eq] at hc
    subst hc
    simp only [wp1] at h
    split at h
    · exact Fx.mk1 h (fun _ _ _ _ _ _ _ _ _ _ _ _ _ C _ _ _ hh _ k => lv_ishl C.1.1 C.1.2.1 hd k)
    · exact h.elim
  | ishr =>
    simp only [chk, Bool.and_eq_true, decide_eq_true_eq] at hc
    subst hc
    simp only [wp1] at h
    split at h
    · exact Fx.mk1 h (fun _ _ _ _ _ _ _ _ _ _ _ _ _ C _ _ _ hh _ k => lv_ishr C.1.1 C.1.2.1 hd k)
    · exact h.elim
  | ladd =>
    simp only [chk, Bool.and_eq_true, decide_eq_true_eq] at hc
    subst hc
    simp only [wp1] at h
    split at h
    · exact Fx.mk1 h (fun _ _ _ _ _ _ _ _ _ _ _ _ _ C _ _ _ hh _ k => lv_ladd C.1.1 C.1.2.1 hd k)
    · exact h.elim
  | lsub =>
    simp only [chk, Bool.and_eq_true, decide_eq_true_eq] at hc
    subst hc
    simp only [wp1] at h
    split at h
    · exact Fx.mk1 h (fun _ _ _ _ _ _ _ _ _ _ _ _ _ C _ _ _ hh _ k => lv_lsub C.1.1 C.1.2.1 hd k)
    · exact h.elim
  | lmul =>
    simp only [chk, Bool.and_eq_true, decide_eq_true_eq] at hc
    subst hc
    simp only [wp1] at h
    split at h
    · exact Fx.mk1 h (fun _ _ _ _ _ _ _ _ _ _ _ _ _ C _ _ _ hh _ k => lv_lmul C.1.1 C.1.2.1 hd k)
    · exact h.elim
  | land =>
    simp only [chk, Bool.and_eq_true, decide_eq_true_eq] at hc
    subst hc
    simp only [wp1] at h
    split at h
    · exact Fx.mk1 h (fun _ _ _ _ _ _ _ _ _ _ _ _ _ C _ _ _ hh _ k => lv_land C.1.1 C.1.2.1 hd k)
    · exact h.elim
  | lor =>
    simp only [chk, Bool.and_eq_true, decide_eq_true_eq] at hc
    subst hc
    simp only [wp1] at h
    split at h
    · exact Fx.mk1 h (fun _ _ _ _ _ _ _ _ _ _ _ _ _ C _ _ _ hh _ k => lv_lor C.1.1 C.1.2.1 hd k)
    · exact h.elim
  | idiv =>
    simp only [chk, Bool.and_eq_true, decide_eq_true_eq] at hc
    subst hc
    simp only [wp1] at h
    split at h
    · exact Fx.mk1 h.2 (fun _ _ _ _ _ _ _ _ _ _ _ _ _ C _ _ _ hh _ k => lv_idiv C.1.1 C.1.2.1 hd h.1 k)
    · exact h.elim
  | irem =>
    simp only [chk, Bool.and_eq_true, decide_eq_true_eq] at hc
    subst hc
    simp only [wp1] at h
    split at h
    · exact Fx.mk1 h.2 (fun _ _ _ _ _ _ _ _ _ _ _ _ _ C _ _ _ hh _ k => lv_irem C.1.1 C.1.2.1 hd h.1 k)
    · exact h.elim
  | lshl =>
    simp only [chk, Bool.and_eq_true, decide_eq_true_eq] at hc
    subst hc
    simp only [wp1] at h
    split at h
    · exact Fx.mk1 h (fun _ _ _ _ _ _ _ _ _ _ _ _ _ C _ _ _ hh _ k => lv_lshl C.1.1 C.1.2.1 hd rfl k)
    · exact h.elim
  | lshr =>
    simp only [chk, Bool.and_eq_true, decide_eq_true_eq] at hc
    subst hc
    simp only [wp1] at h
    split at h
    · exact Fx.mk1 h (fun _ _ _ _ _ _ _ _ _ _ _ _ _ C _ _ _ hh _ k => lv_lshr C.1.1 C.1.2.1 hd rfl k)
    · exact h.elim
  | i2l =>
    simp only [chk, Bool.and_eq_true, decide_eq_true_eq] at hc
    subst hc
    simp only [wp1] at h
    split at h
    · exact Fx.mk1 h (fun _ _ _ _ _ _ _ _ _ _ _ _ _ C _ _ _ hh _ k => lv_i2l C.1.1 C.1.2.1 hd rfl k)
    · exact h.elim
  | l2i =>
    simp only [chk, Bool.and_eq_true, decide_eq_true_eq] at hc
    subst hc
    simp only [wp1] at h
    split at h
    · exact Fx.mk1 h (fun _ _ _ _ _ _ _ _ _ _ _ _ _ C _ _ _ hh _ k => lv_l2i C.1.1 C.1.2.1 hd rfl k)
    · exact h.elim
  | lcmp =>
    simp only [chk, Bool.and_eq_true, decide_eq_true_eq] at hc
    subst hc
    simp only [wp1] at h
    split at h
    · exact Fx.mk1 h (fun _ _ _ _ _ _ _ _ _ _ _ _ _ C _ _ _ hh _ k => W.lcmp C.1.1 C.1.2.1 hd k)
    · exact h.elim
  | dup =>
    simp only [chk, Bool.and_eq_true, decide_eq_true_eq] at hc
    subst hc
    simp only [wp1] at h
    split at h
    · exact Fx.mk1 h (fun _ _ _ _ _ _ _ _ _ _ _ _ _ C _ _ _ hh _ k => lv_dup C.1.1 C.1.2.1 hd rfl k)
    · exact Fx.mk1 h (fun _ _ _ _ _ _ _ _ _ _ _ _ _ C _ _ _ hh _ k => lv_dup C.1.1 C.1.2.1 hd rfl k)
    · exact h.elim
  | dup2 =>
    simp only [chk, Bool.and_eq_true, decide_eq_true_eq] at hc
    subst hc
    simp only [wp1] at h
    split at h
    · exact Fx.mk1 h (fun _ _ _ _ _ _ _ _ _ _ _ _ _ C _ _ _ hh _ k => lv_dup2_11 C.1.1 C.1.2.1 hd rfl rfl k)
    · exact h.elim
  | pop =>
    simp only [chk, Bool.and_eq_true, decide_eq_true_eq] at hc
    subst hc
    simp only [wp1] at h
    split at h
    · exact Fx.mk1 h (fun _ _ _ _ _ _ _ _ _ _ _ _ _ C _ _ _ hh _ k => lv_pop C.1.1 C.1.2.1 hd rfl k)
    · exact h.elim
  | getfield n =>
    simp only [chk, Bool.and_eq_true, decide_eq_true_eq] at hc
    obtain ⟨rfl, hf, h10, hn, hb, hv⟩ := hc
    simp only [wp1] at h
    split at h
    · rename_i c st
      obtain ⟨hk, h⟩ := h
      have hlk := ft_link hf hb
      split at h
      · rename_i o
        simp only [Bool.and_eq_true, decide_eq_true_eq] at hv
        refine Fx.mk1 h (fun _ _ _ _ _ _ _ _ _ _ _ _ _ C _ _ _ hh _ k => va_get C.1.1 C.1.2.1 (C.1.2.2.2.2.2.2) (fun w hw => List.mem_cons_of_mem _ (kd_ws h10 w hw)) C.1.2.2.2.2.2.1 C.2.1 hh.2.1 c (cE_obj hk h10) (kd_cl h10) b hn (C.1.2.2.2.2.2.2 _ (List.mem_cons_of_mem _ hlk)) (fun _ hx => hx) ((fv_get hn).trans ?_) hd k)
        simp only [fv, hk.2, hv.1, hv.2, if_false]
        rfl
      · rename_i hno
        have hv2 : offR a b = 0 ∧ ¬ (a = 8 ∧ b = 1) := by
          split at hv
          · exact absurd rfl (hno _)
          · simpa only [Bool.and_eq_true, decide_eq_true_eq] using hv
        refine Fx.mk1 h (fun _ _ _ _ _ _ _ _ _ _ _ _ _ C _ _ _ hh _ k => va_get C.1.1 C.1.2.1 (C.1.2.2.2.2.2.2) (fun w hw => List.mem_cons_of_mem _ (kd_ws h10 w hw)) C.1.2.2.2.2.2.1 C.2.1 hh.2.1 c (cE_obj hk h10) (kd_cl h10) b hn (C.1.2.2.2.2.2.2 _ (List.mem_cons_of_mem _ hlk)) (fun _ hx => hx) ((fv_get hn).trans ?_) hd k)
        simp only [fv, hk.2, hv2.1, hv2.2, if_true, if_false]
        rfl
    · exact h.elim
  | putfield n =>
    simp only [chk, Bool.and_eq_true, decide_eq_true_eq] at hc
    obtain ⟨rfl, hf, h10, hn, hb, h0, h1', hfin, hv⟩ := hc
    simp only [wp1] at h
    split at h
    · rename_i x c st
      obtain ⟨hk, h⟩ := h
      have hlk := ft_link hf hb
      split at h
      · simp only [decide_eq_true_eq] at hv
        exact Fx.mkH h (fun _ _ _ _ _ _ _ _ _ _ _ _ _ C _ _ _ hl hP hS _ k => va_put (v := .int x) C.1.1 C.1.2.1 (C.1.2.2.2.2.2.2) (fun w hw => List.mem_cons_of_mem _ (kd_ws h10 w hw)) (fY a) (kd_ty h10) (kd_nm h10) C.1.2.2.2.2.2.1 C.2.1 hP (wl_D C.2.2.1) hS c (cE_obj hk h10) (kd_cl h10) b hn (C.1.2.2.2.2.2.2 _ (List.mem_cons_of_mem _ hlk)) (fun _ hx => hx) hfin hv (vp_nar_int x) rfl (by simpa using hn) hd (fun H1 locs1 h1 h2 h3 => k H1 locs1 (by rw [wl_setF hk h10 h0 h1'] at h1; exact h1) h3))
      · rename_i hno
        have hv2 : parseFieldDescriptor (fT a b).2.2.1 = some .boolean := by
          split at hv
          · exact absurd rfl hno
          · simpa only [decide_eq_true_eq] using hv
        obtain ⟨hx, h⟩ := h
        rcases hx with rfl | rfl
        · exact Fx.mkH h (fun _ _ _ _ _ _ _ _ _ _ _ _ _ C _ _ _ hl hP hS _ k => va_put (v := .int 0) C.1.1 C.1.2.1 (C.1.2.2.2.2.2.2) (fun w hw => List.mem_cons_of_mem _ (kd_ws h10 w hw)) (fY a) (kd_ty h10) (kd_nm h10) C.1.2.2.2.2.2.1 C.2.1 hP (wl_D C.2.2.1) hS c (cE_obj hk h10) (kd_cl h10) b hn (C.1.2.2.2.2.2.2 _ (List.mem_cons_of_mem _ hlk)) (fun _ hx => hx) hfin hv2 (by decide) (by decide) (by simpa using hn) hd (fun H1 locs1 h1 h2 h3 => k H1 locs1 (by rw [wl_setF hk h10 h0 h1'] at h1; exact h1) h3))
        · exact Fx.mkH h (fun _ _ _ _ _ _ _ _ _ _ _ _ _ C _ _ _ hl hP hS _ k => va_put (v := .int 1) C.1.1 C.1.2.1 (C.1.2.2.2.2.2.2) (fun w hw => List.mem_cons_of_mem _ (kd_ws h10 w hw)) (fY a) (kd_ty h10) (kd_nm h10) C.1.2.2.2.2.2.1 C.2.1 hP (wl_D C.2.2.1) hS c (cE_obj hk h10) (kd_cl h10) b hn (C.1.2.2.2.2.2.2 _ (List.mem_cons_of_mem _ hlk)) (fun _ hx => hx) hfin hv2 (by decide) (by decide) (by simpa using hn) hd (fun H1 locs1 h1 h2 h3 => k H1 locs1 (by rw [wl_setF hk h10 h0 h1'] at h1; exact h1) h3))
    · exact h.elim
  | iaload =>
    simp only [chk, Bool.and_eq_true, decide_eq_true_eq] at hc
    subst hc
    simp only [wp1] at h
    split at h
    · rename_i i c st
      obtain ⟨⟨hk, hi⟩, h⟩ := h
      exact Fx.mk1 h (fun _ _ _ _ _ _ _ _ _ _ _ _ _ C _ _ _ hh _ k => va_iald C.1.1 C.1.2.1 C.2.1 hh.2.1 c 0 (cE_ints hk) rfl (vp_in_iff.mpr hi) hd k)
    · obtain ⟨hi, h⟩ := h
      exact Fx.mk1 h (fun _ _ _ _ _ _ _ _ _ _ _ _ _ C _ _ _ hh _ k => va_ti C.1.1 C.1.2.1 C.2.2.2.1.2 hh.2.2 (vp_in_iff.mpr hi) rfl hd k)
    · exact h.elim
  | laload =>
    simp only [chk, Bool.and_eq_true, decide_eq_true_eq] at hc
    subst hc
    simp only [wp1] at h
    split at h
    · rename_i i c st
      obtain ⟨⟨hk, hi⟩, h⟩ := h
      exact Fx.mk1 h (fun _ _ _ _ _ _ _ _ _ _ _ _ _ C _ _ _ hh _ k => va_lald C.1.1 C.1.2.1 C.2.1 hh.2.1 c 1 (cE_longs hk) rfl (vp_in_iff.mpr hi) hd k)
    · exact h.elim
  | iastore =>
    simp only [chk, Bool.and_eq_true, decide_eq_true_eq] at hc
    subst hc
    simp only [wp1] at h
    split at h
    · rename_i x i c st
      obtain ⟨⟨hk, hi⟩, h⟩ := h
      exact Fx.mkH h (fun _ _ _ _ _ _ _ _ _ _ _ _ _ C _ _ _ hl hP hS _ k => va_iast C.1.1 C.1.2.1 C.2.1 hP (wl_D C.2.2.1) hS c 0 (cE_ints hk) rfl (vp_in_iff.mpr hi) hd (fun H1 locs1 h1 h2 h3 => k H1 locs1 (by rw [wl_setA hk] at h1; exact h1) h3))
    · exact h.elim
  | lastore =>
    simp only [chk, Bool.and_eq_true, decide_eq_true_eq] at hc
    subst hc
    simp only [wp1] at h
    split at h
    · rename_i x i c st
      obtain ⟨⟨hk, hi⟩, h⟩ := h
      exact Fx.mkH h (fun _ _ _ _ _ _ _ _ _ _ _ _ _ C _ _ _ hl hP hS _ k => va_last C.1.1 C.1.2.1 C.2.1 hP (wl_D C.2.2.1) hS c 1 (cE_longs hk) rfl (vp_in_iff.mpr hi) hd (fun H1 locs1 h1 h2 h3 => k H1 locs1 (by rw [wl_setJ hk] at h1; exact h1) h3))
    · exact h.elim
  | getstatic n =>
    simp only [chk, Bool.and_eq_true, decide_eq_true_eq] at hc
    obtain ⟨rfl, rfl, ho⟩ := hc
    exact Fx.mk1 h (fun _ _ _ _ _ _ _ _ _ _ _ _ _ C _ _ _ hh _ k => va_gets C.1.1 C.1.2.1 C.2.2.2.1.1 hh.2.2 C.1.2.2.2.2.2.1 (C.1.2.2.2.2.2.2 _ (List.mem_cons_of_mem _ (by rw [ho]; exact zLink))) (fun _ hx => hx) hd k)
  | _ => exact False.elim h
theorem Fx.run {q : MI} {d : Nat} {sh : Shp} {r : Option Value} {hp0 : HP} : ∀ (zs : List Zn) (e : Nat) {pc : Nat} {lv : List (Option Value)} {stk : List Value} {hp : HP}, okL q pc zs e = true → wpl sh zs lv stk hp (fun lv' stk' hp' => Fx q d sh e lv' stk' hp' r hp0) → Fx q d sh pc lv stk hp r hp0
  | [], e, pc, lv, stk, hp, h1, h2 => by
    simp only [okL, decide_eq_true_eq] at h1
    subst h1
    exact h2
  | z :: zs, e, pc, lv, stk, hp, h1, h2 => by
    simp only [okL, Bool.and_eq_true] at h1
    refine sx1 h1.1 ?_
    have hm : ∀ (K K' : KK), (∀ a b c, K a b c → K' a b c) → wp1 sh z lv stk hp K → wp1 sh z lv stk hp K' := by
      intro K K' hK hw
      revert hw
      unfold wp1
      split <;> (try exact hK _ _ _) <;> (try exact fun h => h.elim)
      all_goals (repeat' split) <;> (try exact hK _ _ _) <;> (try exact fun h => h.elim) <;> (try exact fun h => ⟨h.1, hK _ _ _ h.2⟩) <;> (try exact fun h => ⟨h.1, h.2.1, hK _ _ _ h.2.2⟩)
    exact hm _ _ (fun a b c hw => Fx.run zs e h1.2 hw) h2
