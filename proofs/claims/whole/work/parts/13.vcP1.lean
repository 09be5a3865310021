set_option maxRecDepth 20000 in
theorem vc_X7_add {G : GG} {l : Launch} {d : Nat} {post : Option AVal → AS → Prop} {σ : AS} {kk nn : Nat} {i0 : Nat} {a1 : Int32} (h : ((((gI σ 8 1 i0) < 0 → post none σ)) ∧ ((¬ (gI σ 8 1 i0) < 0 → (∃ j1 : Nat, ((gR σ 8 0 i0) = some (20, j1) ∧ ((((nI (gN σ 20 j1)) ≤ (gI σ 8 1 i0) → post none σ)) ∧ ((¬ (nI (gN σ 20 j1)) ≤ (gI σ 8 1 i0) → (vp_in (gI σ 8 1 i0) (gN σ 20 j1) ∧ post none (sI (sA σ 20 j1 (gI σ 8 1 i0).toNatClampNeg a1) 8 1 i0 ((gI σ 8 1 i0) + 1)))))))))))) : AW G l M_X7_add d post σ kk nn 0 [some (xR (some (8, i0))), some (xI a1)] [] := by
  refine aw_aload_n (i := 0) d_X7_add_0 rfl rfl ?_
  refine aw_getI fl_RX7_15 rfl d_X7_add_1 ?_
  refine aw_if_lt (tgt := 39) d_X7_add_4 (by decide) (fun c => ?_) (fun c => ?_)
  · have h := h.1 c
    exact aw_vret d_X7_add_39 rfl h
  · have h := h.2 c
    refine aw_aload_n (i := 0) d_X7_add_7 rfl rfl ?_
    refine aw_getI fl_RX7_15 rfl d_X7_add_8 ?_
    refine aw_aload_n (i := 0) d_X7_add_11 rfl rfl ?_
    refine aw_getR fl_RX7_9 rfl d_X7_add_12 ?_
    obtain ⟨j1, ej1, h⟩ := h
    rw [ej1]
    refine aw_alen d_X7_add_15 (by decide) ?_
    refine aw_icmp_ge (tgt := 39) d_X7_add_16 (by decide) (fun c => ?_) (fun c => ?_)
    · have h := h.1 c
      exact aw_vret d_X7_add_39 rfl h
    · have h := h.2 c
      refine aw_aload_n (i := 0) d_X7_add_19 rfl rfl ?_
      refine aw_getRv fl_RX7_9 rfl (r := (some (20, j1))) ej1 d_X7_add_20 ?_
      refine aw_aload_n (i := 0) d_X7_add_23 rfl rfl ?_
      refine aw_getI fl_RX7_15 rfl d_X7_add_24 ?_
      refine aw_iload_n (i := 1) d_X7_add_27 rfl rfl ?_
      obtain ⟨hq, h⟩ := h
      refine aw_iast d_X7_add_28 (by decide) hq ?_
      refine aw_aload_n (i := 0) d_X7_add_29 rfl rfl ?_
      refine aw_dupR d_X7_add_30 ?_
      refine aw_getIv fl_RX7_15 rfl (x := gI σ 8 1 i0) rfl d_X7_add_31 ?_
      refine aw_iconst (x := 1) d_X7_add_34 (by decide) ?_
      refine aw_iadd d_X7_add_35 ?_
      refine aw_putI fl_RX7_15 (by decide) (fin_no (r := (RX7, TX7, 2)) rfl rfl) d_X7_add_36 rfl ⟨rfl, rfl⟩ ?_
      exact aw_vret d_X7_add_39 rfl h
set_option maxRecDepth 20000 in
theorem vc_X7_at {G : GG} {l : Launch} {d : Nat} {post : Option AVal → AS → Prop} {σ : AS} {kk nn : Nat} {i0 : Nat} {a1 : Int32} (h : (((a1 < 0 → post (some (xI (-1))) σ)) ∧ ((¬ a1 < 0 → ((((gI σ 8 1 i0) ≤ a1 → post (some (xI (-1))) σ)) ∧ ((¬ (gI σ 8 1 i0) ≤ a1 → (∃ j1 : Nat, ((gR σ 8 0 i0) = some (20, j1) ∧ ((((nI (gN σ 20 j1)) ≤ a1 → post (some (xI (-1))) σ)) ∧ ((¬ (nI (gN σ 20 j1)) ≤ a1 → (vp_in a1 (gN σ 20 j1) ∧ post (some (xI (gA σ 20 j1 a1.toNatClampNeg))) σ))))))))))))) : AW G l M_X7_at d post σ kk nn 0 [some (xR (some (8, i0))), some (xI a1)] [] := by
  refine aw_iload_n (i := 1) d_X7_at_0 rfl rfl ?_
  refine aw_if_lt (tgt := 30) d_X7_at_1 (by decide) (fun c => ?_) (fun c => ?_)
  · have h := h.1 c
    refine aw_iconst (x := -1) d_X7_at_30 (by decide) ?_
    exact aw_ret d_X7_at_31 rfl rfl h
  · have h := h.2 c
    refine aw_iload_n (i := 1) d_X7_at_4 rfl rfl ?_
    refine aw_aload_n (i := 0) d_X7_at_5 rfl rfl ?_
    refine aw_getI fl_RX7_15 rfl d_X7_at_6 ?_
    refine aw_icmp_ge (tgt := 30) d_X7_at_9 (by decide) (fun c => ?_) (fun c => ?_)
    · have h := h.1 c
      refine aw_iconst (x := -1) d_X7_at_30 (by decide) ?_
      exact aw_ret d_X7_at_31 rfl rfl h
    · have h := h.2 c
      refine aw_iload_n (i := 1) d_X7_at_12 rfl rfl ?_
      refine aw_aload_n (i := 0) d_X7_at_13 rfl rfl ?_
      refine aw_getR fl_RX7_9 rfl d_X7_at_14 ?_
      obtain ⟨j1, ej1, h⟩ := h
      rw [ej1]
      refine aw_alen d_X7_at_17 (by decide) ?_
      refine aw_icmp_ge (tgt := 30) d_X7_at_18 (by decide) (fun c => ?_) (fun c => ?_)
      · have h := h.1 c
        refine aw_iconst (x := -1) d_X7_at_30 (by decide) ?_
        exact aw_ret d_X7_at_31 rfl rfl h
      · have h := h.2 c
        refine aw_aload_n (i := 0) d_X7_at_21 rfl rfl ?_
        refine aw_getRv fl_RX7_9 rfl (r := (some (20, j1))) ej1 d_X7_at_22 ?_
        refine aw_iload_n (i := 1) d_X7_at_25 rfl rfl ?_
        obtain ⟨hq, h⟩ := h
        refine aw_iald d_X7_at_26 (by decide) hq ?_
        refine aw_goto (tgt := 31) d_X7_at_27 (by decide) ?_
        exact aw_ret d_X7_at_31 rfl rfl h
set_option maxRecDepth 20000 in
theorem vc_X10_init {G : GG} {l : Launch} {d : Nat} {post : Option AVal → AS → Prop} {σ : AS} {kk nn : Nat} {i0 : Nat} {p1 : Nat} {a2 : Int32} {p3 : Nat} (h : post none (sI (sR (sI (sR σ 11 0 i0 (some (6, p1))) 11 1 i0 a2) 11 2 i0 (some (2, p3))) 11 3 i0 (gI σ 2 1 p3))) : AW G l M_X10_init (d + 1) post σ kk nn 0 [some (xR (some (11, i0))), some (xR (some (6, p1))), some (xI a2), some (xR (some (2, p3)))] [] := by
  refine aw_aload_n (i := 0) d_X10_init_0 rfl rfl ?_
  refine aw_objInit oi_RX10_3 d_X10_init_1 (Nat.le_of_ble_eq_true rfl) ?_
  refine aw_aload_n (i := 0) d_X10_init_4 rfl rfl ?_
  refine aw_aload_n (i := 1) d_X10_init_5 rfl rfl ?_
  refine aw_putR fl_RX10_9 (by decide) (fin_init (r := (RX10, TX10, 9)) rfl rfl rfl) d_X10_init_6 rfl (by decide) ?_
  refine aw_aload_n (i := 0) d_X10_init_9 rfl rfl ?_
  refine aw_iload_n (i := 2) d_X10_init_10 rfl rfl ?_
  refine aw_putI fl_RX10_15 (by decide) (fin_init (r := (RX10, TX10, 9)) rfl rfl rfl) d_X10_init_11 rfl ⟨rfl, rfl⟩ ?_
  refine aw_aload_n (i := 0) d_X10_init_14 rfl rfl ?_
  refine aw_aload_n (i := 3) d_X10_init_15 rfl rfl ?_
  refine aw_putR fl_RX10_19 (by decide) (fin_init (r := (RX10, TX10, 9)) rfl rfl rfl) d_X10_init_16 rfl (by decide) ?_
  refine aw_aload_n (i := 0) d_X10_init_19 rfl rfl ?_
  refine aw_aload_n (i := 3) d_X10_init_20 rfl rfl ?_
  refine aw_getIv fl_RX10_23 rfl (x := gI σ 2 1 p3) rfl d_X10_init_21 ?_
  refine aw_putI fl_RX10_28 (by decide) (fin_init (r := (RX10, TX10, 9)) rfl rfl rfl) d_X10_init_24 rfl ⟨rfl, rfl⟩ ?_
  exact aw_vret d_X10_init_27 rfl h
set_option maxRecDepth 20000 in
theorem vc_X10_send {G : GG} {l : Launch} {d : Nat} {post : Option AVal → AS → Prop} {σ : AS} {kk nn : Nat} {i0 : Nat} {a1 : Option Nm} (h : (∃ j1 : Nat, ((gR σ 11 2 i0) = some (2, j1) ∧ ((∃ j2 : Nat, ((gR σ 11 0 i0) = some (6, j2) ∧ post none (sI (sI (sR (sI (sI σ 11 6 i0 (gI σ 2 7 j1)) 11 7 i0 ((gI σ 2 7 j1) + (gI σ 2 3 j1))) 11 8 i0 a1) 6 7 j2 ((gI σ 6 7 j2) + 1)) 6 8 j2 (((1440 * (gI σ 11 1 i0)) + ((gI σ 2 7 j1) + (gI σ 2 3 j1))) + 660)))))))) : AW G l M_X10_send d post σ kk nn 0 [some (xR (some (11, i0))), some (xR a1)] [] := by
  refine aw_aload_n (i := 0) d_X10_send_0 rfl rfl ?_
  refine aw_aload_n (i := 0) d_X10_send_1 rfl rfl ?_
  refine aw_getR fl_RX10_19 rfl d_X10_send_2 ?_
  obtain ⟨j1, ej1, h⟩ := h
  rw [ej1]
  refine aw_getI fl_RX10_29 rfl d_X10_send_5 ?_
  refine aw_putI fl_RX10_32 (by decide) (fin_no (r := (RX10, TX10, 9)) rfl rfl) d_X10_send_8 rfl ⟨rfl, rfl⟩ ?_
  refine aw_aload_n (i := 0) d_X10_send_11 rfl rfl ?_
  refine aw_aload_n (i := 0) d_X10_send_12 rfl rfl ?_
  refine aw_getIv fl_RX10_32 rfl (x := (gI σ 2 7 j1)) (gI_self (σ := σ) (c := 11) (f := 6) (i := i0) (v := (gI σ 2 7 j1))) d_X10_send_13 ?_
  refine aw_aload_n (i := 0) d_X10_send_16 rfl rfl ?_
  refine aw_getRv fl_RX10_19 rfl (r := (some (2, j1))) ej1 d_X10_send_17 ?_
  refine aw_getIv fl_RX10_33 rfl (x := gI σ 2 3 j1) rfl d_X10_send_20 ?_
  refine aw_iadd d_X10_send_23 ?_
  refine aw_putI fl_RX10_36 (by decide) (fin_no (r := (RX10, TX10, 9)) rfl rfl) d_X10_send_24 rfl ⟨rfl, rfl⟩ ?_
  refine aw_aload_n (i := 0) d_X10_send_27 rfl rfl ?_
  refine aw_aload_n (i := 1) d_X10_send_28 rfl rfl ?_
  refine aw_putR fl_RX10_39 (by decide) (fin_no (r := (RX10, TX10, 9)) rfl rfl) d_X10_send_29 rfl (by decide) ?_
  refine aw_aload_n (i := 0) d_X10_send_32 rfl rfl ?_
  refine aw_getRv fl_RX10_9 rfl (r := (gR σ 11 0 i0)) rfl d_X10_send_33 ?_
  refine aw_dupR d_X10_send_36 ?_
  obtain ⟨j2, ej2, h⟩ := h
  rw [ej2]
  refine aw_getIv fl_RX10_43 rfl (x := gI σ 6 7 j2) rfl d_X10_send_37 ?_
  refine aw_iconst (x := 1) d_X10_send_40 (by decide) ?_
  refine aw_iadd d_X10_send_41 ?_
  refine aw_putI fl_RX10_43 (by decide) (fin_no (r := (RX5, TX5, 12)) rfl rfl) d_X10_send_42 rfl ⟨rfl, rfl⟩ ?_
  refine aw_aload_n (i := 0) d_X10_send_45 rfl rfl ?_
  refine aw_getRv fl_RX10_9 rfl (r := (some (6, j2))) ej2 d_X10_send_46 ?_
  refine aw_sipush (x := 1440) d_X10_send_49 (by decide) ?_
  refine aw_aload_n (i := 0) d_X10_send_52 rfl rfl ?_
  refine aw_getIv fl_RX10_15 rfl (x := gI σ 11 1 i0) rfl d_X10_send_53 ?_
  refine aw_imul d_X10_send_56 ?_
  refine aw_aload_n (i := 0) d_X10_send_57 rfl rfl ?_
  refine aw_getIv fl_RX10_36 rfl (x := ((gI σ 2 7 j1) + (gI σ 2 3 j1))) (gI_self (σ := (sI σ 11 6 i0 (gI σ 2 7 j1))) (c := 11) (f := 7) (i := i0) (v := ((gI σ 2 7 j1) + (gI σ 2 3 j1)))) d_X10_send_58 ?_
  refine aw_iadd d_X10_send_61 ?_
  refine aw_sipush (x := 660) d_X10_send_62 (by decide) ?_
  refine aw_iadd d_X10_send_65 ?_
  refine aw_putI fl_RX10_48 (by decide) (fin_no (r := (RX5, TX5, 12)) rfl rfl) d_X10_send_66 rfl ⟨rfl, rfl⟩ ?_
  exact aw_vret d_X10_send_69 rfl h
set_option maxRecDepth 20000 in
theorem vc_X10_earned {G : GG} {l : Launch} {d : Nat} {post : Option AVal → AS → Prop} {σ : AS} {kk nn : Nat} {i0 : Nat} (h : ((((gR σ 11 8 i0) = none → post (some (xI 0)) σ)) ∧ ((∀ n : Nm, ((gR σ 11 8 i0) = some n → (∃ j1 : Nat, (n = (1, j1) ∧ ((∃ j2 : Nat, ((gR σ 11 8 i0) = some (1, j2) ∧ (AMet G l M_X0_worth d 0 0 [xR (some (1, j2)), xI (gI σ 11 4 i0), xI (gI σ 11 7 i0)] σ (retI (fun x4 σ3 => post (some (xI x4)) σ3))))))))))))) : AW G l M_X10_earned (d + 1) post σ kk nn 0 [some (xR (some (11, i0)))] [] := by
  refine aw_aload_n (i := 0) d_X10_earned_0 rfl rfl ?_
  refine aw_getR fl_RX10_39 rfl d_X10_earned_1 ?_
  refine aw_ifnonnull (tgt := 11) d_X10_earned_4 (by decide) (fun n c => ?_) (fun c => ?_)
  · obtain ⟨j1, e9, h⟩ := h.2 n c
    subst e9
    try rw [c]
    refine aw_aload_n (i := 0) d_X10_earned_11 rfl rfl ?_
    refine aw_getR fl_RX10_39 rfl d_X10_earned_12 ?_
    refine aw_aload_n (i := 0) d_X10_earned_15 rfl rfl ?_
    refine aw_getI fl_RX10_51 rfl d_X10_earned_16 ?_
    refine aw_aload_n (i := 0) d_X10_earned_19 rfl rfl ?_
    refine aw_getI fl_RX10_36 rfl d_X10_earned_20 ?_
    obtain ⟨j2, ej2, h⟩ := h
    rw [ej2]
    refine aw_callV0 (as := [xI (gI σ 11 4 i0), xI (gI σ 11 7 i0)]) mw_X0_worth (by decide +kernel) ml_RX10_54 rfl d_X10_earned_23 rfl (Nat.le_of_ble_eq_true rfl) (AMet.mono h (aw_toI (fun x4 σ3 h => ?_)))
    exact aw_ret d_X10_earned_26 rfl rfl h
  · have h := h.1 c
    try rw [c]
    refine aw_iconst (x := 0) d_X10_earned_7 (by decide) ?_
    refine aw_goto (tgt := 26) d_X10_earned_8 (by decide) ?_
    exact aw_ret d_X10_earned_26 rfl rfl h
set_option maxRecDepth 20000 in
theorem vc_X10_answer {G : GG} {l : Launch} {d : Nat} {post : Option AVal → AS → Prop} {σ : AS} {kk nn : Nat} {i0 : Nat} {a1 : Int32} (h : (((a1 = 0 → post (some (xI (gI σ 11 3 i0))) σ)) ∧ ((a1 = 1 → post (some (xI (gI σ 11 4 i0))) σ)) ∧ ((a1 = 2 → post (some (xI (gI σ 11 5 i0))) σ)) ∧ ((a1 = 3 → post (some (xI (gI σ 11 6 i0))) σ)) ∧ ((a1 = 4 → post (some (xI (gI σ 11 7 i0))) σ)) ∧ ((a1 = 5 → ((((gR σ 11 8 i0) = none → post (some (xI (-1))) σ)) ∧ ((∀ n : Nm, ((gR σ 11 8 i0) = some n → (∃ j1 : Nat, (n = (1, j1) ∧ ((∃ j2 : Nat, ((gR σ 11 8 i0) = some (1, j2) ∧ post (some (xI (gI σ 1 0 j2))) σ))))))))))) ∧ ((a1 = 6 → AMet G l M_X10_earned d 0 0 [xR (some (11, i0))] σ (retI (fun x4 σ3 => post (some (xI x4)) σ3)))) ∧ (((a1.toInt < 0 ∨ 6 < a1.toInt) → post (some (xI (-1))) σ)))) : AW G l M_X10_answer (d + 1) post σ kk nn 0 [some (xR (some (11, i0))), some (xI a1)] [] := by
  refine aw_iload_n (i := 1) d_X10_answer_0 rfl rfl ?_
  by_cases c0 : a1 = 0
  · have c := c0
    have h := h.1 c
    refine aw_sw (k := 0) (off := 43) (tgt := 44) d_X10_answer_1 c (by decide) (by decide) (by decide) (by decide) ?_
    refine aw_aload_n (i := 0) d_X10_answer_44 rfl rfl ?_
    refine aw_getI fl_RX10_28 rfl d_X10_answer_45 ?_
    exact aw_ret d_X10_answer_48 rfl rfl h
  by_cases c1 : a1 = 1
  · have c := c1
    have h := h.2.1 c
    refine aw_sw (k := 1) (off := 48) (tgt := 49) d_X10_answer_1 c (by decide) (by decide) (by decide) (by decide) ?_
    refine aw_aload_n (i := 0) d_X10_answer_49 rfl rfl ?_
    refine aw_getI fl_RX10_51 rfl d_X10_answer_50 ?_
    exact aw_ret d_X10_answer_53 rfl rfl h
  by_cases c2 : a1 = 2
  · have c := c2
    have h := h.2.2.1 c
    refine aw_sw (k := 2) (off := 53) (tgt := 54) d_X10_answer_1 c (by decide) (by decide) (by decide) (by decide) ?_
    refine aw_aload_n (i := 0) d_X10_answer_54 rfl rfl ?_
    refine aw_getI fl_RX10_60 rfl d_X10_answer_55 ?_
    exact aw_ret d_X10_answer_58 rfl rfl h
  by_cases c3 : a1 = 3
  · have c := c3
    have h := h.2.2.2.1 c
    refine aw_sw (k := 3) (off := 58) (tgt := 59) d_X10_answer_1 c (by decide) (by decide) (by decide) (by decide) ?_
    refine aw_aload_n (i := 0) d_X10_answer_59 rfl rfl ?_
    refine aw_getI fl_RX10_32 rfl d_X10_answer_60 ?_
    exact aw_ret d_X10_answer_63 rfl rfl h
  by_cases c4 : a1 = 4
  · have c := c4
    have h := h.2.2.2.2.1 c
    refine aw_sw (k := 4) (off := 63) (tgt := 64) d_X10_answer_1 c (by decide) (by decide) (by decide) (by decide) ?_
    refine aw_aload_n (i := 0) d_X10_answer_64 rfl rfl ?_
    refine aw_getI fl_RX10_36 rfl d_X10_answer_65 ?_
    exact aw_ret d_X10_answer_68 rfl rfl h
  by_cases c5 : a1 = 5
  · have c := c5
    have h := h.2.2.2.2.2.1 c
    refine aw_sw (k := 5) (off := 68) (tgt := 69) d_X10_answer_1 c (by decide) (by decide) (by decide) (by decide) ?_
    refine aw_aload_n (i := 0) d_X10_answer_69 rfl rfl ?_
    refine aw_getR fl_RX10_39 rfl d_X10_answer_70 ?_
    refine aw_ifnonnull (tgt := 80) d_X10_answer_73 (by decide) (fun n c => ?_) (fun c => ?_)
    · obtain ⟨j1, e9, h⟩ := h.2 n c
      subst e9
      try rw [c]
      refine aw_aload_n (i := 0) d_X10_answer_80 rfl rfl ?_
      refine aw_getR fl_RX10_39 rfl d_X10_answer_81 ?_
      obtain ⟨j2, ej2, h⟩ := h
      rw [ej2]
      refine aw_getI fl_RX10_63 rfl d_X10_answer_84 ?_
      exact aw_ret d_X10_answer_87 rfl rfl h
    · have h := h.1 c
      try rw [c]
      refine aw_iconst (x := -1) d_X10_answer_76 (by decide) ?_
      refine aw_goto (tgt := 87) d_X10_answer_77 (by decide) ?_
      exact aw_ret d_X10_answer_87 rfl rfl h
  by_cases c6 : a1 = 6
  · have c := c6
    have h := h.2.2.2.2.2.2.1 c
    refine aw_sw (k := 6) (off := 87) (tgt := 88) d_X10_answer_1 c (by decide) (by decide) (by decide) (by decide) ?_
    refine aw_aload_n (i := 0) d_X10_answer_88 rfl rfl ?_
    refine aw_callV0 (as := []) mw_X10_earned (by decide +kernel) ml_RX10_66 rfl d_X10_answer_89 rfl (Nat.le_of_ble_eq_true rfl) (AMet.mono h (aw_toI (fun x4 σ3 h => ?_)))
    exact aw_ret d_X10_answer_92 rfl rfl h
  have c : a1.toInt < 0 ∨ 6 < a1.toInt := by
    have q0 : ¬ a1.toInt = 0 := fun e => c0 (i32_eq (e.trans (by decide)))
    have q1 : ¬ a1.toInt = 1 := fun e => c1 (i32_eq (e.trans (by decide)))
    have q2 : ¬ a1.toInt = 2 := fun e => c2 (i32_eq (e.trans (by decide)))
    have q3 : ¬ a1.toInt = 3 := fun e => c3 (i32_eq (e.trans (by decide)))
    have q4 : ¬ a1.toInt = 4 := fun e => c4 (i32_eq (e.trans (by decide)))
    have q5 : ¬ a1.toInt = 5 := fun e => c5 (i32_eq (e.trans (by decide)))
    have q6 : ¬ a1.toInt = 6 := fun e => c6 (i32_eq (e.trans (by decide)))
    omega
  have h := h.2.2.2.2.2.2.2 c
  refine aw_switchOut (tgt := 93) d_X10_answer_1 c (by decide) ?_
  refine aw_iconst (x := -1) d_X10_answer_93 (by decide) ?_
  exact aw_ret d_X10_answer_94 rfl rfl h
