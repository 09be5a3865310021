set_option maxRecDepth 20000 in
theorem vc_X1_init {G : GG} {l : Launch} {d : Nat} {post : Option AVal → AS → Prop} {σ : AS} {kk nn : Nat} {i0 : Nat} {a1 : Int32} (h : (∃ kk1 nn2 : Nat, (kk = kk1 + 1 ∧ nn = nn2 + 0 ∧ post none (sI (sR (nA σ 25 0) 2 5 i0 (some (25, (cnt σ 25)))) 2 0 i0 a1)))) : AW G l M_X1_init (d + 1) post σ kk nn 0 [some (xR (some (2, i0))), some (xI a1)] [] := by
  refine aw_aload_n (i := 0) d_X1_init_0 rfl rfl ?_
  refine aw_objInit oi_RX1_3 d_X1_init_1 (Nat.le_of_ble_eq_true rfl) ?_
  refine aw_aload_n (i := 0) d_X1_init_4 rfl rfl ?_
  refine aw_iconst (x := 0) d_X1_init_5 (by decide) ?_
  obtain ⟨kk1, nn2, ek, en, h⟩ := h
  rw [ek, en]
  refine aw_newarr 25 (at0 := .int) (t := 0) (N := 0) (by decide) (by decide) rfl (Or.inl ⟨rfl, rfl⟩) ac_int d_X1_init_6 (by decide) (by decide) ?_
  refine aw_putR fl_RX1_9 (by decide) (fin_no (r := (RX1, TX1, 9)) rfl rfl) d_X1_init_8 rfl (by decide) ?_
  refine aw_aload_n (i := 0) d_X1_init_11 rfl rfl ?_
  refine aw_iload_n (i := 1) d_X1_init_12 rfl rfl ?_
  refine aw_putI fl_RX1_15 (by decide) (fin_init (r := (RX1, TX1, 9)) rfl rfl rfl) d_X1_init_13 rfl ⟨rfl, rfl⟩ ?_
  exact aw_vret d_X1_init_16 rfl h
set_option maxRecDepth 20000 in
theorem vc_X1_highest {G : GG} {l : Launch} {d : Nat} {post : Option AVal → AS → Prop} {σ : AS} {kk nn : Nat} {a1 : Int32} (h : (((a1 = 1 → post (some (xI 15)) σ)) ∧ ((a1 = 2 → post (some (xI 3)) σ)) ∧ ((a1 = 3 → post (some (xI 19)) σ)) ∧ (((a1.toInt < 1 ∨ 3 < a1.toInt) → post (some (xI 99999)) σ)))) : AW G l M_X1_highest d post σ kk nn 0 [some (xI a1)] [] := by
  refine aw_iload_n (i := 0) d_X1_highest_0 rfl rfl ?_
  by_cases c0 : a1 = 1
  · have c := c0
    have h := h.1 c
    refine aw_sw (k := 1) (off := 27) (tgt := 28) d_X1_highest_1 c (by decide) (by decide) (by decide) (by decide) ?_
    refine aw_bipush (x := 15) d_X1_highest_28 (by decide) ?_
    exact aw_ret d_X1_highest_30 rfl rfl h
  by_cases c1 : a1 = 2
  · have c := c1
    have h := h.2.1 c
    refine aw_sw (k := 2) (off := 30) (tgt := 31) d_X1_highest_1 c (by decide) (by decide) (by decide) (by decide) ?_
    refine aw_iconst (x := 3) d_X1_highest_31 (by decide) ?_
    exact aw_ret d_X1_highest_32 rfl rfl h
  by_cases c2 : a1 = 3
  · have c := c2
    have h := h.2.2.1 c
    refine aw_sw (k := 3) (off := 32) (tgt := 33) d_X1_highest_1 c (by decide) (by decide) (by decide) (by decide) ?_
    refine aw_bipush (x := 19) d_X1_highest_33 (by decide) ?_
    exact aw_ret d_X1_highest_35 rfl rfl h
  have c : a1.toInt < 1 ∨ 3 < a1.toInt := by
    have q0 : ¬ a1.toInt = 1 := fun e => c0 (i32_eq (e.trans (by decide)))
    have q1 : ¬ a1.toInt = 2 := fun e => c1 (i32_eq (e.trans (by decide)))
    have q2 : ¬ a1.toInt = 3 := fun e => c2 (i32_eq (e.trans (by decide)))
    omega
  have h := h.2.2.2 c
  refine aw_switchOut (tgt := 36) d_X1_highest_1 c (by decide) ?_
  refine aw_ldcI (x := 99999) d_X1_highest_36 ct_RX1_21 ?_
  exact aw_ret d_X1_highest_38 rfl rfl h
set_option maxRecDepth 20000 in
theorem vc_X1_takeSteps {G : GG} {l : Launch} {d : Nat} {post : Option AVal → AS → Prop} {σ : AS} {kk nn : Nat} {i0 : Nat} {p1 : Nat} (h : (∃ N3 kk1 nn2 : Nat, ((if (gI σ 8 1 p1) < 0 then 0 else (gI σ 8 1 p1)).toNatClampNeg = N3 ∧ ¬ (if (gI σ 8 1 p1) < 0 then 0 else (gI σ 8 1 p1)) < 0 ∧ N3 ≤ 60000000 ∧ kk = kk1 + 1 ∧ nn = nn2 + N3 ∧ AW G l M_X1_takeSteps (d + 1) post (sR (nA σ 25 N3) 2 5 i0 (some (25, (cnt σ 25)))) kk1 nn2 16 [some (xR (some (2, i0))), some (xR (some (8, p1))), some (xI 0)] []))) : AW G l M_X1_takeSteps (d + 1) post σ kk nn 0 [some (xR (some (2, i0))), some (xR (some (8, p1))), none] [] := by
  refine aw_aload_n (i := 0) d_X1_takeSteps_0 rfl rfl ?_
  refine aw_aload_n (i := 1) d_X1_takeSteps_1 rfl rfl ?_
  refine aw_getI fl_RX1_22 rfl d_X1_takeSteps_2 ?_
  refine aw_iconst (x := 0) d_X1_takeSteps_5 (by decide) ?_
  refine aw_mmax ml_RX1_27 d_X1_takeSteps_6 (Nat.le_of_ble_eq_true rfl) ?_
  obtain ⟨N3, kk1, nn2, hN, hx, hb, ek, en, h⟩ := h
  rw [ek, en]
  refine aw_newarr 25 (at0 := .int) (t := 0) (N := N3) hN (by decide) rfl (Or.inl ⟨rfl, rfl⟩) ac_int d_X1_takeSteps_9 hx hb ?_
  refine aw_putR fl_RX1_9 (by decide) (fin_no (r := (RX1, TX1, 9)) rfl rfl) d_X1_takeSteps_11 rfl (by decide) ?_
  refine aw_iconst (x := 0) d_X1_takeSteps_14 (by decide) ?_
  refine aw_istore_n (i := 2) d_X1_takeSteps_15 rfl (by decide) ?_
  exact h
set_option maxRecDepth 20000 in
theorem vc_X1_takeSteps_16 {G : GG} {l : Launch} {d : Nat} {post : Option AVal → AS → Prop} {σ : AS} {kk nn : Nat} {v0 : Nat} {v1 : Nat} {v2 : Int32} (h : (∃ j4 : Nat, ((gR σ 2 5 v0) = some (25, j4) ∧ ((((nI (gN σ 25 j4)) ≤ v2 → post none σ)) ∧ ((¬ (nI (gN σ 25 j4)) ≤ v2 → AMet G l M_X7_at d 0 0 [xR (some (8, v1)), xI v2] σ (retI (fun x6 σ5 => (vp_in v2 (gN σ5 25 j4) ∧ AW G l M_X1_takeSteps (d + 1) post (sA σ5 25 j4 v2.toNatClampNeg x6) kk nn 16 [some (xR (some (2, v0))), some (xR (some (8, v1))), some (xI (v2 + 1))] []))))))))) : AW G l M_X1_takeSteps (d + 1) post σ kk nn 16 [some (xR (some (2, v0))), some (xR (some (8, v1))), some (xI v2)] [] := by
  refine aw_iload_n (i := 2) d_X1_takeSteps_16 rfl rfl ?_
  refine aw_aload_n (i := 0) d_X1_takeSteps_17 rfl rfl ?_
  refine aw_getR fl_RX1_9 rfl d_X1_takeSteps_18 ?_
  obtain ⟨j4, ej4, h⟩ := h
  rw [ej4]
  refine aw_alen d_X1_takeSteps_21 (by decide) ?_
  refine aw_icmp_ge (tgt := 42) d_X1_takeSteps_22 (by decide) (fun c => ?_) (fun c => ?_)
  · have h := h.1 c
    exact aw_vret d_X1_takeSteps_42 rfl h
  · have h := h.2 c
    refine aw_aload_n (i := 0) d_X1_takeSteps_25 rfl rfl ?_
    refine aw_getRv fl_RX1_9 rfl (r := (some (25, j4))) ej4 d_X1_takeSteps_26 ?_
    refine aw_iload_n (i := 2) d_X1_takeSteps_29 rfl rfl ?_
    refine aw_aload_n (i := 1) d_X1_takeSteps_30 rfl rfl ?_
    refine aw_iload_n (i := 2) d_X1_takeSteps_31 rfl rfl ?_
    refine aw_callV0 (as := [xI v2]) mw_X7_at (by decide +kernel) ml_RX1_33 rfl d_X1_takeSteps_32 rfl (Nat.le_of_ble_eq_true rfl) (AMet.mono h (aw_toI (fun x6 σ5 h => ?_)))
    obtain ⟨hq, h⟩ := h
    refine aw_iast d_X1_takeSteps_35 (by decide) hq ?_
    refine aw_iinc (i := 2) (v := v2 + 1) d_X1_takeSteps_36 rfl rfl (by decide) ?_
    refine aw_goto (tgt := 16) d_X1_takeSteps_39 (by decide) ?_
    exact h
set_option maxRecDepth 20000 in
theorem vc_X1_isOpenTo {G : GG} {l : Launch} {d : Nat} {post : Option AVal → AS → Prop} {σ : AS} {kk nn : Nat} {i0 : Nat} {p1 : Nat} {a2 : Int32} (h : (((¬ (gI σ 6 6 p1) = 0 → post (some (xI 0)) σ)) ∧ (((gI σ 6 6 p1) = 0 → (((((1440 * a2) + (gI σ 2 2 i0)) < (gI σ 6 8 p1) → post (some (xI 0)) σ)) ∧ ((¬ ((1440 * a2) + (gI σ 2 2 i0)) < (gI σ 6 8 p1) → AMet G l M_X1_suits d 0 0 [xR (some (2, i0)), xR (some (6, p1))] σ (retI (fun x2 σ1 => (((x2 = 0 → post (some (xI 0)) σ1)) ∧ ((¬ x2 = 0 → post (some (xI 1)) σ1)))))))))))) : AW G l M_X1_isOpenTo (d + 1) post σ kk nn 0 [some (xR (some (2, i0))), some (xR (some (6, p1))), some (xI a2)] [] := by
  refine aw_aload_n (i := 1) d_X1_isOpenTo_0 rfl rfl ?_
  refine aw_getI fl_RX1_37 rfl d_X1_isOpenTo_1 ?_
  refine aw_if_ne (tgt := 36) d_X1_isOpenTo_4 (by decide) (fun c => ?_) (fun c => ?_)
  · have h := h.1 c
    refine aw_iconst (x := 0) d_X1_isOpenTo_36 (by decide) ?_
    exact aw_ret d_X1_isOpenTo_37 rfl (by decide) h
  · have h := h.2 c
    refine aw_aload_n (i := 1) d_X1_isOpenTo_7 rfl rfl ?_
    refine aw_getI fl_RX1_43 rfl d_X1_isOpenTo_8 ?_
    refine aw_sipush (x := 1440) d_X1_isOpenTo_11 (by decide) ?_
    refine aw_iload_n (i := 2) d_X1_isOpenTo_14 rfl rfl ?_
    refine aw_imul d_X1_isOpenTo_15 ?_
    refine aw_aload_n (i := 0) d_X1_isOpenTo_16 rfl rfl ?_
    refine aw_getI fl_RX1_46 rfl d_X1_isOpenTo_17 ?_
    refine aw_iadd d_X1_isOpenTo_20 ?_
    refine aw_icmp_gt (tgt := 36) d_X1_isOpenTo_21 (by decide) (fun c => ?_) (fun c => ?_)
    · have h := h.1 c
      refine aw_iconst (x := 0) d_X1_isOpenTo_36 (by decide) ?_
      exact aw_ret d_X1_isOpenTo_37 rfl (by decide) h
    · have h := h.2 c
      refine aw_aload_n (i := 0) d_X1_isOpenTo_24 rfl rfl ?_
      refine aw_aload_n (i := 1) d_X1_isOpenTo_25 rfl rfl ?_
      refine aw_callV0 (as := [xR (some (6, p1))]) mw_X1_suits (by decide +kernel) ml_RX1_49 rfl d_X1_isOpenTo_26 rfl (Nat.le_of_ble_eq_true rfl) (AMet.mono h (aw_toI (fun x2 σ1 h => ?_)))
      refine aw_if_eq (tgt := 36) d_X1_isOpenTo_29 (by decide) (fun c => ?_) (fun c => ?_)
      · have h := h.1 c
        refine aw_iconst (x := 0) d_X1_isOpenTo_36 (by decide) ?_
        exact aw_ret d_X1_isOpenTo_37 rfl (by decide) h
      · have h := h.2 c
        refine aw_iconst (x := 1) d_X1_isOpenTo_32 (by decide) ?_
        refine aw_goto (tgt := 37) d_X1_isOpenTo_33 (by decide) ?_
        exact aw_ret d_X1_isOpenTo_37 rfl (by decide) h
set_option maxRecDepth 20000 in
theorem vc_X1_suits {G : GG} {l : Launch} {d : Nat} {post : Option AVal → AS → Prop} {σ : AS} {kk nn : Nat} {i0 : Nat} {p1 : Nat} (h : AW G l M_X1_suits (d + 1) post σ kk nn 5 [some (xR (some (2, i0))), some (xR (some (6, p1))), some (xL 0), none, some (xI 0), none, none, none] []) : AW G l M_X1_suits (d + 1) post σ kk nn 0 [some (xR (some (2, i0))), some (xR (some (6, p1))), none, none, none, none, none, none] [] := by
  refine aw_lconst (x := 0) d_X1_suits_0 (by decide) ?_
  refine aw_lstore_n (i := 2) d_X1_suits_1 rfl (by decide) ?_
  refine aw_iconst (x := 0) d_X1_suits_2 (by decide) ?_
  refine aw_istore (i := 4) d_X1_suits_3 (by decide) ?_
  exact h
set_option maxRecDepth 20000 in
theorem vc_X1_suits_5 {G : GG} {l : Launch} {d : Nat} {post : Option AVal → AS → Prop} {σ : AS} {kk nn : Nat} {v0 : Nat} {v1 : Nat} {v2 : Int64} {v4 : Int32} (h : (∃ j1 : Nat, ((gR σ 2 5 v0) = some (25, j1) ∧ ((((nI (gN σ 25 j1)) ≤ v4 → (((¬ (lg_cmp (v2 &&& 1) 1) = 0 → post (some (xI 0)) σ)) ∧ (((lg_cmp (v2 &&& 1) 1) = 0 → post (some (xI 1)) σ))))) ∧ ((¬ (nI (gN σ 25 j1)) ≤ v4 → (vp_in v4 (gN σ 25 j1) ∧ (((¬ ((gA σ 25 j1 v4.toNatClampNeg) / 100000) = 8 → (((¬ ((gA σ 25 j1 v4.toNatClampNeg) / 100000) = 9 → (((¬ ((gA σ 25 j1 v4.toNatClampNeg) / 100000) = 10 → (vp_in v4 (gN σ 25 j1) ∧ (AMet G l M_X1_holds d 0 0 [xI ((gA σ 25 j1 v4.toNatClampNeg) / 100000), xI ((gA σ 25 j1 v4.toNatClampNeg) - (gA σ 25 j1 v4.toNatClampNeg) / 100000 * 100000), xR (some (6, v1))] σ (retI (fun x3 σ2 => (((x3 = 0 → AW G l M_X1_suits (d + 1) post σ2 kk nn 5 [some (xR (some (2, v0))), some (xR (some (6, v1))), some (xL ((v2 <<< ((1 : Int32).toInt64 &&& 63)) ||| ((0 : Int32).toInt64))), none, some (xI (v4 + 1)), none, none, none] [])) ∧ ((¬ x3 = 0 → AW G l M_X1_suits (d + 1) post σ2 kk nn 5 [some (xR (some (2, v0))), some (xR (some (6, v1))), some (xL ((v2 <<< ((1 : Int32).toInt64 &&& 63)) ||| ((1 : Int32).toInt64))), none, some (xI (v4 + 1)), none, none, none] []))))))))) ∧ ((((gA σ 25 j1 v4.toNatClampNeg) / 100000) = 10 → AW G l M_X1_suits (d + 1) post σ kk nn 5 [some (xR (some (2, v0))), some (xR (some (6, v1))), some (xL (((v2.toUInt64 >>> ((1 : Int32).toInt64.toUInt64 &&& Int64.toUInt64 63)).toInt64) ||| (v2 &&& 1))), none, some (xI (v4 + 1)), none, none, none] []))))) ∧ ((((gA σ 25 j1 v4.toNatClampNeg) / 100000) = 9 → AW G l M_X1_suits (d + 1) post σ kk nn 5 [some (xR (some (2, v0))), some (xR (some (6, v1))), some (xL (((v2.toUInt64 >>> ((1 : Int32).toInt64.toUInt64 &&& Int64.toUInt64 63)).toInt64) &&& ((v2 &&& 1) ||| (-2)))), none, some (xI (v4 + 1)), none, none, none] []))))) ∧ ((((gA σ 25 j1 v4.toNatClampNeg) / 100000) = 8 → AW G l M_X1_suits (d + 1) post σ kk nn 5 [some (xR (some (2, v0))), some (xR (some (6, v1))), some (xL (v2 ^^^ 1)), none, some (xI (v4 + 1)), none, none, none] [])))))))))) : AW G l M_X1_suits (d + 1) post σ kk nn 5 [some (xR (some (2, v0))), some (xR (some (6, v1))), some (xL v2), none, some (xI v4), none, none, none] [] := by
  refine aw_iload (i := 4) d_X1_suits_5 rfl ?_
  refine aw_aload_n (i := 0) d_X1_suits_7 rfl rfl ?_
  refine aw_getR fl_RX1_9 rfl d_X1_suits_8 ?_
  obtain ⟨j1, ej1, h⟩ := h
  rw [ej1]
  refine aw_alen d_X1_suits_11 (by decide) ?_
  refine aw_icmp_ge (tgt := 120) d_X1_suits_12 (by decide) (fun c => ?_) (fun c => ?_)
  · have h := h.1 c
    refine aw_lload_n (i := 2) d_X1_suits_120 rfl rfl ?_
    refine aw_lconst (x := 1) d_X1_suits_121 (by decide) ?_
    refine aw_land d_X1_suits_122 ?_
    refine aw_lconst (x := 1) d_X1_suits_123 (by decide) ?_
    refine aw_lcmp d_X1_suits_124 ?_
    refine aw_if_ne (tgt := 132) d_X1_suits_125 (by decide) (fun c => ?_) (fun c => ?_)
    · have h := h.1 c
      refine aw_iconst (x := 0) d_X1_suits_132 (by decide) ?_
      exact aw_ret d_X1_suits_133 rfl (by decide) h
    · have h := h.2 c
      refine aw_iconst (x := 1) d_X1_suits_128 (by decide) ?_
      refine aw_goto (tgt := 133) d_X1_suits_129 (by decide) ?_
      exact aw_ret d_X1_suits_133 rfl (by decide) h
  · have h := h.2 c
    refine aw_aload_n (i := 0) d_X1_suits_15 rfl rfl ?_
    refine aw_getRv fl_RX1_9 rfl (r := (some (25, j1))) ej1 d_X1_suits_16 ?_
    refine aw_iload (i := 4) d_X1_suits_19 rfl ?_
    obtain ⟨hq, h⟩ := h
    refine aw_iald d_X1_suits_21 (by decide) hq ?_
    refine aw_ldcI (x := 100000) d_X1_suits_22 ct_RX1_53 ?_
    refine aw_idiv d_X1_suits_24 (by decide) ?_
    refine aw_istore (i := 5) d_X1_suits_25 (by decide) ?_
    refine aw_lload_n (i := 2) d_X1_suits_27 rfl rfl ?_
    refine aw_lconst (x := 1) d_X1_suits_28 (by decide) ?_
    refine aw_land d_X1_suits_29 ?_
    refine aw_lstore (i := 6) d_X1_suits_30 (by decide) ?_
    refine aw_iload (i := 5) d_X1_suits_32 rfl ?_
    refine aw_bipush (x := 8) d_X1_suits_34 (by decide) ?_
    refine aw_icmp_ne (tgt := 46) d_X1_suits_36 (by decide) (fun c => ?_) (fun c => ?_)
    · have h := h.1 c
      refine aw_iload (i := 5) d_X1_suits_46 rfl ?_
      refine aw_bipush (x := 9) d_X1_suits_48 (by decide) ?_
      refine aw_icmp_ne (tgt := 67) d_X1_suits_50 (by decide) (fun c => ?_) (fun c => ?_)
      · have h := h.1 c
        refine aw_iload (i := 5) d_X1_suits_67 rfl ?_
        refine aw_bipush (x := 10) d_X1_suits_69 (by decide) ?_
        refine aw_icmp_ne (tgt := 84) d_X1_suits_71 (by decide) (fun c => ?_) (fun c => ?_)
        · have h := h.1 c
          refine aw_lload_n (i := 2) d_X1_suits_84 rfl rfl ?_
          refine aw_iconst (x := 1) d_X1_suits_85 (by decide) ?_
          refine aw_lshl d_X1_suits_86 rfl ?_
          refine aw_iload (i := 5) d_X1_suits_87 rfl ?_
          refine aw_aload_n (i := 0) d_X1_suits_89 rfl rfl ?_
          refine aw_getRv fl_RX1_9 rfl (r := (some (25, j1))) ej1 d_X1_suits_90 ?_
          refine aw_iload (i := 4) d_X1_suits_93 rfl ?_
          obtain ⟨hq, h⟩ := h
          refine aw_iald d_X1_suits_95 (by decide) hq ?_
          refine aw_ldcI (x := 100000) d_X1_suits_96 ct_RX1_53 ?_
          refine aw_irem d_X1_suits_98 (by decide) ?_
          refine aw_aload_n (i := 1) d_X1_suits_99 rfl rfl ?_
          refine aw_callS0 (as := [xI ((gA σ 25 j1 v4.toNatClampNeg) / 100000), xI ((gA σ 25 j1 v4.toNatClampNeg) - (gA σ 25 j1 v4.toNatClampNeg) / 100000 * 100000), xR (some (6, v1))]) mw_X1_holds ml_RX1_56 rfl d_X1_suits_100 rfl (Nat.le_of_ble_eq_true rfl) (AMet.mono h (aw_toI (fun x3 σ2 h => ?_)))
          refine aw_if_eq (tgt := 110) d_X1_suits_103 (by decide) (fun c => ?_) (fun c => ?_)
          · have h := h.1 c
            refine aw_iconst (x := 0) d_X1_suits_110 (by decide) ?_
            refine aw_i2l d_X1_suits_111 rfl ?_
            refine aw_lor d_X1_suits_112 ?_
            refine aw_lstore_n (i := 2) d_X1_suits_113 rfl (by decide) ?_
            refine aw_iinc (i := 4) (v := v4 + 1) d_X1_suits_114 rfl rfl (by decide) ?_
            refine aw_goto (tgt := 5) d_X1_suits_117 (by decide) ?_
            exact AW.weak h (by exact ⟨rfl, ⟨rfl, ⟨rfl, ⟨rfl, trivial⟩⟩⟩⟩)
          · have h := h.2 c
            refine aw_iconst (x := 1) d_X1_suits_106 (by decide) ?_
            refine aw_goto (tgt := 111) d_X1_suits_107 (by decide) ?_
            refine aw_i2l d_X1_suits_111 rfl ?_
            refine aw_lor d_X1_suits_112 ?_
            refine aw_lstore_n (i := 2) d_X1_suits_113 rfl (by decide) ?_
            refine aw_iinc (i := 4) (v := v4 + 1) d_X1_suits_114 rfl rfl (by decide) ?_
            refine aw_goto (tgt := 5) d_X1_suits_117 (by decide) ?_
            exact AW.weak h (by exact ⟨rfl, ⟨rfl, ⟨rfl, ⟨rfl, trivial⟩⟩⟩⟩)
        · have h := h.2 c
          refine aw_lload_n (i := 2) d_X1_suits_74 rfl rfl ?_
          refine aw_iconst (x := 1) d_X1_suits_75 (by decide) ?_
          refine aw_lushr d_X1_suits_76 rfl ?_
          refine aw_lload (i := 6) d_X1_suits_77 rfl ?_
          refine aw_lor d_X1_suits_79 ?_
          refine aw_lstore_n (i := 2) d_X1_suits_80 rfl (by decide) ?_
          refine aw_goto (tgt := 114) d_X1_suits_81 (by decide) ?_
          refine aw_iinc (i := 4) (v := v4 + 1) d_X1_suits_114 rfl rfl (by decide) ?_
          refine aw_goto (tgt := 5) d_X1_suits_117 (by decide) ?_
          exact AW.weak h (by exact ⟨rfl, ⟨rfl, ⟨rfl, ⟨rfl, trivial⟩⟩⟩⟩)
      · have h := h.2 c
        refine aw_lload_n (i := 2) d_X1_suits_53 rfl rfl ?_
        refine aw_iconst (x := 1) d_X1_suits_54 (by decide) ?_
        refine aw_lushr d_X1_suits_55 rfl ?_
        refine aw_lload (i := 6) d_X1_suits_56 rfl ?_
        refine aw_ldc2 (x := -2) d_X1_suits_58 ct_RX1_54 ?_
        refine aw_lor d_X1_suits_61 ?_
        refine aw_land d_X1_suits_62 ?_
        refine aw_lstore_n (i := 2) d_X1_suits_63 rfl (by decide) ?_
        refine aw_goto (tgt := 114) d_X1_suits_64 (by decide) ?_
        refine aw_iinc (i := 4) (v := v4 + 1) d_X1_suits_114 rfl rfl (by decide) ?_
        refine aw_goto (tgt := 5) d_X1_suits_117 (by decide) ?_
        exact AW.weak h (by exact ⟨rfl, ⟨rfl, ⟨rfl, ⟨rfl, trivial⟩⟩⟩⟩)
    · have h := h.2 c
      refine aw_lload_n (i := 2) d_X1_suits_39 rfl rfl ?_
      refine aw_lconst (x := 1) d_X1_suits_40 (by decide) ?_
      refine aw_lxor d_X1_suits_41 ?_
      refine aw_lstore_n (i := 2) d_X1_suits_42 rfl (by decide) ?_
      refine aw_goto (tgt := 114) d_X1_suits_43 (by decide) ?_
      refine aw_iinc (i := 4) (v := v4 + 1) d_X1_suits_114 rfl rfl (by decide) ?_
      refine aw_goto (tgt := 5) d_X1_suits_117 (by decide) ?_
      exact AW.weak h (by exact ⟨rfl, ⟨rfl, ⟨rfl, ⟨rfl, trivial⟩⟩⟩⟩)
set_option maxRecDepth 20000 in
theorem vc_X1_holds {G : GG} {l : Launch} {d : Nat} {post : Option AVal → AS → Prop} {σ : AS} {kk nn : Nat} {a1 : Int32} {a2 : Int32} {p3 : Nat} (h : (((a1 = 1 → (((¬ (((gI σ 6 3 p3) >>> (a2 &&& 31)) &&& 1) = 1 → post (some (xI 0)) σ)) ∧ (((((gI σ 6 3 p3) >>> (a2 &&& 31)) &&& 1) = 1 → post (some (xI 1)) σ))))) ∧ ((a1 = 2 → (((¬ (gI σ 6 4 p3) = a2 → post (some (xI 0)) σ)) ∧ (((gI σ 6 4 p3) = a2 → post (some (xI 1)) σ))))) ∧ ((a1 = 3 → AMet G l M_X5_wasIn d 0 0 [xR (some (6, p3)), xI a2] σ (retI (fun x2 σ1 => (narrow .boolean (.int x2) = .int x2 ∧ post (some (xI x2)) σ1))))) ∧ ((a1 = 4 → (((a2 ≤ (gI σ 6 1 p3) → post (some (xI 0)) σ)) ∧ ((¬ a2 ≤ (gI σ 6 1 p3) → post (some (xI 1)) σ))))) ∧ ((a1 = 5 → ((((gI σ 6 1 p3) ≤ a2 → post (some (xI 0)) σ)) ∧ ((¬ (gI σ 6 1 p3) ≤ a2 → post (some (xI 1)) σ))))) ∧ ((a1 = 6 → (((a2 ≤ (gI σ 6 2 p3) → post (some (xI 0)) σ)) ∧ ((¬ a2 ≤ (gI σ 6 2 p3) → post (some (xI 1)) σ))))) ∧ ((a1 = 7 → ((((gI σ 6 2 p3) ≤ a2 → post (some (xI 0)) σ)) ∧ ((¬ (gI σ 6 2 p3) ≤ a2 → post (some (xI 1)) σ))))) ∧ (((a1.toInt < 1 ∨ 7 < a1.toInt) → post (some (xI 1)) σ)))) : AW G l M_X1_holds (d + 1) post σ kk nn 0 [some (xI a1), some (xI a2), some (xR (some (6, p3)))] [] := by
  refine aw_iload_n (i := 0) d_X1_holds_0 rfl rfl ?_
  by_cases c0 : a1 = 1
  · have c := c0
    have h := h.1 c
    refine aw_sw (k := 1) (off := 43) (tgt := 44) d_X1_holds_1 c (by decide) (by decide) (by decide) (by decide) ?_
    refine aw_aload_n (i := 2) d_X1_holds_44 rfl rfl ?_
    refine aw_getI fl_RX1_60 rfl d_X1_holds_45 ?_
    refine aw_iload_n (i := 1) d_X1_holds_48 rfl rfl ?_
    refine aw_ishr d_X1_holds_49 ?_
    refine aw_iconst (x := 1) d_X1_holds_50 (by decide) ?_
    refine aw_iand d_X1_holds_51 ?_
    refine aw_iconst (x := 1) d_X1_holds_52 (by decide) ?_
    refine aw_icmp_ne (tgt := 60) d_X1_holds_53 (by decide) (fun c => ?_) (fun c => ?_)
    · have h := h.1 c
      refine aw_iconst (x := 0) d_X1_holds_60 (by decide) ?_
      exact aw_ret d_X1_holds_61 rfl (by decide) h
    · have h := h.2 c
      refine aw_iconst (x := 1) d_X1_holds_56 (by decide) ?_
      refine aw_goto (tgt := 61) d_X1_holds_57 (by decide) ?_
      exact aw_ret d_X1_holds_61 rfl (by decide) h
  by_cases c1 : a1 = 2
  · have c := c1
    have h := h.2.1 c
    refine aw_sw (k := 2) (off := 61) (tgt := 62) d_X1_holds_1 c (by decide) (by decide) (by decide) (by decide) ?_
    refine aw_aload_n (i := 2) d_X1_holds_62 rfl rfl ?_
    refine aw_getI fl_RX1_63 rfl d_X1_holds_63 ?_
    refine aw_iload_n (i := 1) d_X1_holds_66 rfl rfl ?_
    refine aw_icmp_ne (tgt := 74) d_X1_holds_67 (by decide) (fun c => ?_) (fun c => ?_)
    · have h := h.1 c
      refine aw_iconst (x := 0) d_X1_holds_74 (by decide) ?_
      exact aw_ret d_X1_holds_75 rfl (by decide) h
    · have h := h.2 c
      refine aw_iconst (x := 1) d_X1_holds_70 (by decide) ?_
      refine aw_goto (tgt := 75) d_X1_holds_71 (by decide) ?_
      exact aw_ret d_X1_holds_75 rfl (by decide) h
  by_cases c2 : a1 = 3
  · have c := c2
    have h := h.2.2.1 c
    refine aw_sw (k := 3) (off := 75) (tgt := 76) d_X1_holds_1 c (by decide) (by decide) (by decide) (by decide) ?_
    refine aw_aload_n (i := 2) d_X1_holds_76 rfl rfl ?_
    refine aw_iload_n (i := 1) d_X1_holds_77 rfl rfl ?_
    refine aw_callV0 (as := [xI a2]) mw_X5_wasIn (by decide +kernel) ml_RX1_66 rfl d_X1_holds_78 rfl (Nat.le_of_ble_eq_true rfl) (AMet.mono h (aw_toI (fun x2 σ1 h => ?_)))
    exact aw_ret d_X1_holds_81 rfl h.1 h.2
  by_cases c3 : a1 = 4
  · have c := c3
    have h := h.2.2.2.1 c
    refine aw_sw (k := 4) (off := 81) (tgt := 82) d_X1_holds_1 c (by decide) (by decide) (by decide) (by decide) ?_
    refine aw_aload_n (i := 2) d_X1_holds_82 rfl rfl ?_
    refine aw_getI fl_RX1_70 rfl d_X1_holds_83 ?_
    refine aw_iload_n (i := 1) d_X1_holds_86 rfl rfl ?_
    refine aw_icmp_ge (tgt := 94) d_X1_holds_87 (by decide) (fun c => ?_) (fun c => ?_)
    · have h := h.1 c
      refine aw_iconst (x := 0) d_X1_holds_94 (by decide) ?_
      exact aw_ret d_X1_holds_95 rfl (by decide) h
    · have h := h.2 c
      refine aw_iconst (x := 1) d_X1_holds_90 (by decide) ?_
      refine aw_goto (tgt := 95) d_X1_holds_91 (by decide) ?_
      exact aw_ret d_X1_holds_95 rfl (by decide) h
  by_cases c4 : a1 = 5
  · have c := c4
    have h := h.2.2.2.2.1 c
    refine aw_sw (k := 5) (off := 95) (tgt := 96) d_X1_holds_1 c (by decide) (by decide) (by decide) (by decide) ?_
    refine aw_aload_n (i := 2) d_X1_holds_96 rfl rfl ?_
    refine aw_getI fl_RX1_70 rfl d_X1_holds_97 ?_
    refine aw_iload_n (i := 1) d_X1_holds_100 rfl rfl ?_
    refine aw_icmp_le (tgt := 108) d_X1_holds_101 (by decide) (fun c => ?_) (fun c => ?_)
    · have h := h.1 c
      refine aw_iconst (x := 0) d_X1_holds_108 (by decide) ?_
      exact aw_ret d_X1_holds_109 rfl (by decide) h
    · have h := h.2 c
      refine aw_iconst (x := 1) d_X1_holds_104 (by decide) ?_
      refine aw_goto (tgt := 109) d_X1_holds_105 (by decide) ?_
      exact aw_ret d_X1_holds_109 rfl (by decide) h
  by_cases c5 : a1 = 6
  · have c := c5
    have h := h.2.2.2.2.2.1 c
    refine aw_sw (k := 6) (off := 109) (tgt := 110) d_X1_holds_1 c (by decide) (by decide) (by decide) (by decide) ?_
    refine aw_aload_n (i := 2) d_X1_holds_110 rfl rfl ?_
    refine aw_getI fl_RX1_73 rfl d_X1_holds_111 ?_
    refine aw_iload_n (i := 1) d_X1_holds_114 rfl rfl ?_
    refine aw_icmp_ge (tgt := 122) d_X1_holds_115 (by decide) (fun c => ?_) (fun c => ?_)
    · have h := h.1 c
      refine aw_iconst (x := 0) d_X1_holds_122 (by decide) ?_
      exact aw_ret d_X1_holds_123 rfl (by decide) h
    · have h := h.2 c
      refine aw_iconst (x := 1) d_X1_holds_118 (by decide) ?_
      refine aw_goto (tgt := 123) d_X1_holds_119 (by decide) ?_
      exact aw_ret d_X1_holds_123 rfl (by decide) h
  by_cases c6 : a1 = 7
  · have c := c6
    have h := h.2.2.2.2.2.2.1 c
    refine aw_sw (k := 7) (off := 123) (tgt := 124) d_X1_holds_1 c (by decide) (by decide) (by decide) (by decide) ?_
    refine aw_aload_n (i := 2) d_X1_holds_124 rfl rfl ?_
    refine aw_getI fl_RX1_73 rfl d_X1_holds_125 ?_
    refine aw_iload_n (i := 1) d_X1_holds_128 rfl rfl ?_
    refine aw_icmp_le (tgt := 136) d_X1_holds_129 (by decide) (fun c => ?_) (fun c => ?_)
    · have h := h.1 c
      refine aw_iconst (x := 0) d_X1_holds_136 (by decide) ?_
      exact aw_ret d_X1_holds_137 rfl (by decide) h
    · have h := h.2 c
      refine aw_iconst (x := 1) d_X1_holds_132 (by decide) ?_
      refine aw_goto (tgt := 137) d_X1_holds_133 (by decide) ?_
      exact aw_ret d_X1_holds_137 rfl (by decide) h
  have c : a1.toInt < 1 ∨ 7 < a1.toInt := by
    have q0 : ¬ a1.toInt = 1 := fun e => c0 (i32_eq (e.trans (by decide)))
    have q1 : ¬ a1.toInt = 2 := fun e => c1 (i32_eq (e.trans (by decide)))
    have q2 : ¬ a1.toInt = 3 := fun e => c2 (i32_eq (e.trans (by decide)))
    have q3 : ¬ a1.toInt = 4 := fun e => c3 (i32_eq (e.trans (by decide)))
    have q4 : ¬ a1.toInt = 5 := fun e => c4 (i32_eq (e.trans (by decide)))
    have q5 : ¬ a1.toInt = 6 := fun e => c5 (i32_eq (e.trans (by decide)))
    have q6 : ¬ a1.toInt = 7 := fun e => c6 (i32_eq (e.trans (by decide)))
    omega
  have h := h.2.2.2.2.2.2.2 c
  refine aw_switchOut (tgt := 138) d_X1_holds_1 c (by decide) ?_
  refine aw_iconst (x := 1) d_X1_holds_138 (by decide) ?_
  exact aw_ret d_X1_holds_139 rfl (by decide) h
set_option maxRecDepth 20000 in
theorem vc_X1_answer {G : GG} {l : Launch} {d : Nat} {post : Option AVal → AS → Prop} {σ : AS} {kk nn : Nat} {i0 : Nat} {a1 : Int32} (h : (((a1 = 0 → post (some (xI (gI σ 2 1 i0))) σ)) ∧ ((a1 = 1 → post (some (xI (gI σ 2 2 i0))) σ)) ∧ ((a1 = 2 → post (some (xI (gI σ 2 3 i0))) σ)) ∧ ((a1 = 3 → post (some (xI (gI σ 2 4 i0))) σ)) ∧ ((a1 = 4 → post (some (xI (gI σ 2 6 i0))) σ)) ∧ (((a1.toInt < 0 ∨ 4 < a1.toInt) → post (some (xI (-1))) σ)))) : AW G l M_X1_answer d post σ kk nn 0 [some (xR (some (2, i0))), some (xI a1)] [] := by
  refine aw_iload_n (i := 1) d_X1_answer_0 rfl rfl ?_
  by_cases c0 : a1 = 0
  · have c := c0
    have h := h.1 c
    refine aw_sw (k := 0) (off := 35) (tgt := 36) d_X1_answer_1 c (by decide) (by decide) (by decide) (by decide) ?_
    refine aw_aload_n (i := 0) d_X1_answer_36 rfl rfl ?_
    refine aw_getI fl_RX1_76 rfl d_X1_answer_37 ?_
    exact aw_ret d_X1_answer_40 rfl rfl h
  by_cases c1 : a1 = 1
  · have c := c1
    have h := h.2.1 c
    refine aw_sw (k := 1) (off := 40) (tgt := 41) d_X1_answer_1 c (by decide) (by decide) (by decide) (by decide) ?_
    refine aw_aload_n (i := 0) d_X1_answer_41 rfl rfl ?_
    refine aw_getI fl_RX1_46 rfl d_X1_answer_42 ?_
    exact aw_ret d_X1_answer_45 rfl rfl h
  by_cases c2 : a1 = 2
  · have c := c2
    have h := h.2.2.1 c
    refine aw_sw (k := 2) (off := 45) (tgt := 46) d_X1_answer_1 c (by decide) (by decide) (by decide) (by decide) ?_
    refine aw_aload_n (i := 0) d_X1_answer_46 rfl rfl ?_
    refine aw_getI fl_RX1_79 rfl d_X1_answer_47 ?_
    exact aw_ret d_X1_answer_50 rfl rfl h
  by_cases c3 : a1 = 3
  · have c := c3
    have h := h.2.2.2.1 c
    refine aw_sw (k := 3) (off := 50) (tgt := 51) d_X1_answer_1 c (by decide) (by decide) (by decide) (by decide) ?_
    refine aw_aload_n (i := 0) d_X1_answer_51 rfl rfl ?_
    refine aw_getI fl_RX1_82 rfl d_X1_answer_52 ?_
    exact aw_ret d_X1_answer_55 rfl rfl h
  by_cases c4 : a1 = 4
  · have c := c4
    have h := h.2.2.2.2.1 c
    refine aw_sw (k := 4) (off := 55) (tgt := 56) d_X1_answer_1 c (by decide) (by decide) (by decide) (by decide) ?_
    refine aw_aload_n (i := 0) d_X1_answer_56 rfl rfl ?_
    refine aw_getI fl_RX1_85 rfl d_X1_answer_57 ?_
    exact aw_ret d_X1_answer_60 rfl rfl h
  have c : a1.toInt < 0 ∨ 4 < a1.toInt := by
    have q0 : ¬ a1.toInt = 0 := fun e => c0 (i32_eq (e.trans (by decide)))
    have q1 : ¬ a1.toInt = 1 := fun e => c1 (i32_eq (e.trans (by decide)))
    have q2 : ¬ a1.toInt = 2 := fun e => c2 (i32_eq (e.trans (by decide)))
    have q3 : ¬ a1.toInt = 3 := fun e => c3 (i32_eq (e.trans (by decide)))
    have q4 : ¬ a1.toInt = 4 := fun e => c4 (i32_eq (e.trans (by decide)))
    omega
  have h := h.2.2.2.2.2 c
  refine aw_switchOut (tgt := 61) d_X1_answer_1 c (by decide) ?_
  refine aw_iconst (x := -1) d_X1_answer_61 (by decide) ?_
  exact aw_ret d_X1_answer_62 rfl rfl h
set_option maxRecDepth 20000 in
theorem vc_X3_init {G : GG} {l : Launch} {d : Nat} {post : Option AVal → AS → Prop} {σ : AS} {kk nn : Nat}  (h : (∃ kk1 nn2 : Nat, (kk = kk1 + 1 ∧ nn = nn2 + 3 ∧ (AMet G l M_Jx4a65c_init_da8c8 d 0 0 [xR (some (0, (cnt σ 0)))] (nO σ 0) (retV (fun σ3 => (∃ kk4 nn5 : Nat, (kk1 = kk4 + 1 ∧ nn2 = nn5 + 3 ∧ (AMet G l M_Jx4a65c_init_da8c8 d 0 0 [xR (some (0, (cnt (sR σ3 4 0 0 (some (0, (cnt σ 0)))) 0)))] (nO (sR σ3 4 0 0 (some (0, (cnt σ 0)))) 0) (retV (fun σ6 => (∃ kk7 nn8 : Nat, (kk4 = kk7 + 1 ∧ nn5 = nn8 + 5 ∧ post none (sR (nA (sR σ6 4 1 0 (some (0, (cnt (sR σ3 4 0 0 (some (0, (cnt σ 0)))) 0)))) 20 5) 4 2 0 (some (20, (cnt (sR σ6 4 1 0 (some (0, (cnt (sR σ3 4 0 0 (some (0, (cnt σ 0)))) 0)))) 20))))))))))))))))) : AW G l M_X3_init (d + 1) post σ kk nn 0 [some (xR (some (4, 0)))] [] := by
  refine aw_aload_n (i := 0) d_X3_init_0 rfl rfl ?_
  refine aw_objInit oi_RX3_3 d_X3_init_1 (Nat.le_of_ble_eq_true rfl) ?_
  refine aw_aload_n (i := 0) d_X3_init_4 rfl rfl ?_
  obtain ⟨kk1, nn2, ek, en, h⟩ := h
  rw [ek, en]
  refine aw_new (c := 0) (n := 3) (r := (RJx4a65c, TJx4a65c, 3)) rfl rfl nw_RX3_9 d_X3_init_5 ?_
  refine aw_dupR d_X3_init_8 ?_
  refine aw_callI0 (as := []) mw_Jx4a65c_init_da8c8 rfl rfl ml_RX3_11 rfl d_X3_init_9 rfl (Nat.le_of_ble_eq_true rfl) (AMet.mono h (aw_toV (fun σ3 h => ?_)))
  refine aw_putR fl_RX3_12 (by decide) (fin_init (r := (RX3, TX3, 3)) rfl rfl rfl) d_X3_init_12 rfl (by decide) ?_
  refine aw_aload_n (i := 0) d_X3_init_15 rfl rfl ?_
  obtain ⟨kk4, nn5, ek, en, h⟩ := h
  rw [ek, en]
  refine aw_new (c := 0) (n := 3) (r := (RJx4a65c, TJx4a65c, 3)) rfl rfl nw_RX3_9 d_X3_init_16 ?_
  refine aw_dupR d_X3_init_19 ?_
  refine aw_callI0 (as := []) mw_Jx4a65c_init_da8c8 rfl rfl ml_RX3_11 rfl d_X3_init_20 rfl (Nat.le_of_ble_eq_true rfl) (AMet.mono h (aw_toV (fun σ6 h => ?_)))
  refine aw_putR fl_RX3_18 (by decide) (fin_init (r := (RX3, TX3, 3)) rfl rfl rfl) d_X3_init_23 rfl (by decide) ?_
  refine aw_aload_n (i := 0) d_X3_init_26 rfl rfl ?_
  refine aw_iconst (x := 5) d_X3_init_27 (by decide) ?_
  obtain ⟨kk7, nn8, ek, en, h⟩ := h
  rw [ek, en]
  refine aw_newarr 20 (at0 := .int) (t := 0) (N := 5) (by decide) (by decide) rfl (Or.inl ⟨rfl, rfl⟩) ac_int d_X3_init_28 (by decide) (by decide) ?_
  refine aw_putR fl_RX3_21 (by decide) (fin_init (r := (RX3, TX3, 3)) rfl rfl rfl) d_X3_init_30 rfl (by decide) ?_
  exact aw_vret d_X3_init_33 rfl h
set_option maxRecDepth 20000 in
theorem vc_X3_comeAll {G : GG} {l : Launch} {d : Nat} {post : Option AVal → AS → Prop} {σ : AS} {kk nn : Nat} {p1 : Nat} {a2 : Int32} {a3 : Int32} (hS : St σ) (h : AMet G l M_Jx4a65c_clear_da8c8 d 0 0 [xR (some (0, 3))] σ (retV (fun σ1 => (St σ1 ∧ (AMet G l M_Jx4a65c_clear_da8c8 d 0 0 [xR (some (0, 4))] σ1 (retV (fun σ2 => AW G l M_X3_comeAll (d + 1) post σ2 kk nn 17 [some (xR (some (4, 0))), some (xR (some (0, p1))), some (xI a2), some (xI a3), some (xI 0), none, none, none] []))))))) : AW G l M_X3_comeAll (d + 1) post σ kk nn 0 [some (xR (some (4, 0))), some (xR (some (0, p1))), some (xI a2), some (xI a3), none, none, none, none] [] := by
  refine aw_aload_n (i := 0) d_X3_comeAll_0 rfl rfl ?_
  refine aw_getRv fl_RX3_12 rfl (r := some (0, 3)) (St.get hS 4 0 0 0 3 (by decide)) d_X3_comeAll_1 ?_
  refine aw_callV0 (as := []) mw_Jx4a65c_clear_da8c8 (by decide +kernel) ml_RX3_25 rfl d_X3_comeAll_4 rfl (Nat.le_of_ble_eq_true rfl) (AMet.mono h (aw_toV (fun σ1 h => ?_)))
  obtain ⟨hS1, h⟩ := h
  refine aw_aload_n (i := 0) d_X3_comeAll_7 rfl rfl ?_
  refine aw_getRv fl_RX3_18 rfl (r := some (0, 4)) (St.get hS1 4 1 0 0 4 (by decide)) d_X3_comeAll_8 ?_
  refine aw_callV0 (as := []) mw_Jx4a65c_clear_da8c8 (by decide +kernel) ml_RX3_25 rfl d_X3_comeAll_11 rfl (Nat.le_of_ble_eq_true rfl) (AMet.mono h (aw_toV (fun σ2 h => ?_)))
  refine aw_iconst (x := 0) d_X3_comeAll_14 (by decide) ?_
  refine aw_istore (i := 4) d_X3_comeAll_15 (by decide) ?_
  exact h
set_option maxRecDepth 20000 in
theorem vc_X3_comeAll_17 {G : GG} {l : Launch} {d : Nat} {post : Option AVal → AS → Prop} {σ : AS} {kk nn : Nat} {v1 : Nat} {v2 : Int32} {v3 : Int32} {v4 : Int32} (h : AMet G l M_Jx4a65c_size_8abf5 d 0 0 [xR (some (0, v1))] σ (retI (fun x4 σ3 => (((x4 ≤ v4 → post none σ3)) ∧ ((¬ x4 ≤ v4 → AMet G l M_Jx4a65c_get_915e3 d 0 0 [xR (some (0, v1)), xI v4] σ3 (retR (fun r6 σ5 => (∃ j7 : Nat, (r6 = some (6, j7) ∧ ((((gR σ5 6 11 j7) = none → AW G l M_X3_comeAll (d + 1) post σ5 kk nn 17 [some (xR (some (4, 0))), some (xR (some (0, v1))), some (xI v2), some (xI v3), some (xI (v4 + 1)), none, none, none] [])) ∧ ((∀ n : Nm, ((gR σ5 6 11 j7) = some n → (∃ j8 : Nat, (n = (2, j8) ∧ (AMet G l M_X3_following d 0 0 [xI ((v2 + (31 * v4)) + (7 * v3))] σ5 (retI (fun x10 σ9 => (∃ kk11 nn12 : Nat, (kk = kk11 + 1 ∧ nn = nn12 + 9 ∧ (AMet G l M_X10_init d 0 0 [xR (some (11, (cnt σ9 11))), xR (some (6, j7)), xI v3, xR (gR σ9 6 11 j7)] (nO σ9 11) (retV (fun σ13 => (St σ13 ∧ ((∃ j14 : Nat, ((gR σ13 6 11 j7) = some (2, j14) ∧ ((∃ mc18 ms19 kk16 nn17 : Nat, (kk11 = kk16 + mc18 ∧ nn12 = nn17 + ms19 ∧ (AMet G l M_Jx4a65c_add_9ea2d d mc18 ms19 [xR (some (0, 3)), xR (some (11, (cnt σ9 11)))] (sI σ13 11 4 (cnt σ9 11) ((gI σ13 2 2 j14) + (((x10.toUInt32 >>> ((16 : Int32).toUInt32 &&& Int32.toUInt32 31)).toInt32) - ((x10.toUInt32 >>> ((16 : Int32).toUInt32 &&& Int32.toUInt32 31)).toInt32) / 20 * 20))) (retI (fun x20 σ15 => (∃ mc24 ms25 kk22 nn23 : Nat, (kk16 = kk22 + mc24 ∧ nn17 = nn23 + ms25 ∧ (AMet G l M_X3_queue d mc24 ms25 [xR (some (4, 0)), xR (some (11, (cnt σ9 11)))] σ15 (retV (fun σ21 => AW G l M_X3_comeAll (d + 1) post σ21 kk22 nn23 17 [some (xR (some (4, 0))), some (xR (some (0, v1))), some (xI v2), some (xI v3), some (xI (v4 + 1)), none, none, none] []))))))))))))))))))))))))))))))))))))))) : AW G l M_X3_comeAll (d + 1) post σ kk nn 17 [some (xR (some (4, 0))), some (xR (some (0, v1))), some (xI v2), some (xI v3), some (xI v4), none, none, none] [] := by
  refine aw_iload (i := 4) d_X3_comeAll_17 rfl ?_
  refine aw_aload_n (i := 1) d_X3_comeAll_19 rfl rfl ?_
  refine aw_callV0 (as := []) mw_Jx4a65c_size_8abf5 (by decide +kernel) ml_RX3_28 rfl d_X3_comeAll_20 rfl (Nat.le_of_ble_eq_true rfl) (AMet.mono h (aw_toI (fun x4 σ3 h => ?_)))
  refine aw_icmp_ge (tgt := 123) d_X3_comeAll_23 (by decide) (fun c => ?_) (fun c => ?_)
  · have h := h.1 c
    exact aw_vret d_X3_comeAll_123 rfl h
  · have h := h.2 c
    refine aw_aload_n (i := 1) d_X3_comeAll_26 rfl rfl ?_
    refine aw_iload (i := 4) d_X3_comeAll_27 rfl ?_
    refine aw_callV0 (as := [xI v4]) mw_Jx4a65c_get_915e3 (by decide +kernel) ml_RX3_32 rfl d_X3_comeAll_29 rfl (Nat.le_of_ble_eq_true rfl) (AMet.mono h (aw_toR (fun r6 σ5 h => ?_)))
    obtain ⟨j7, ej7, h⟩ := h
    rw [ej7]
    refine aw_cast (c := 6) (by decide) cl_RX3_36 d_X3_comeAll_32 ?_
    refine aw_astore (i := 5) d_X3_comeAll_35 (by decide) ?_
    refine aw_aload (i := 5) d_X3_comeAll_37 rfl ?_
    refine aw_getR fl_RX3_38 rfl d_X3_comeAll_39 ?_
    refine aw_ifnull (tgt := 117) d_X3_comeAll_42 (by decide) (fun c => ?_) (fun n c => ?_)
    · have h := h.1 c
      try rw [c]
      refine aw_iinc (i := 4) (v := v4 + 1) d_X3_comeAll_117 rfl rfl (by decide) ?_
      refine aw_goto (tgt := 17) d_X3_comeAll_120 (by decide) ?_
      exact AW.weak h (by exact ⟨rfl, ⟨rfl, ⟨rfl, ⟨rfl, ⟨rfl, trivial⟩⟩⟩⟩⟩)
    · obtain ⟨j8, e9, h⟩ := h.2 n c
      subst e9
      try rw [c]
      refine aw_iload_n (i := 2) d_X3_comeAll_45 rfl rfl ?_
      refine aw_bipush (x := 31) d_X3_comeAll_46 (by decide) ?_
      refine aw_iload (i := 4) d_X3_comeAll_48 rfl ?_
      refine aw_imul d_X3_comeAll_50 ?_
      refine aw_iadd d_X3_comeAll_51 ?_
      refine aw_bipush (x := 7) d_X3_comeAll_52 (by decide) ?_
      refine aw_iload_n (i := 3) d_X3_comeAll_54 rfl rfl ?_
      refine aw_imul d_X3_comeAll_55 ?_
      refine aw_iadd d_X3_comeAll_56 ?_
      refine aw_callS0 (as := [xI ((v2 + (31 * v4)) + (7 * v3))]) mw_X3_following ml_RX3_42 rfl d_X3_comeAll_57 rfl (Nat.le_of_ble_eq_true rfl) (AMet.mono h (aw_toI (fun x10 σ9 h => ?_)))
      refine aw_bipush (x := 16) d_X3_comeAll_60 (by decide) ?_
      refine aw_iushr d_X3_comeAll_62 rfl ?_
      refine aw_bipush (x := 20) d_X3_comeAll_63 (by decide) ?_
      refine aw_irem d_X3_comeAll_65 (by decide) ?_
      refine aw_istore (i := 6) d_X3_comeAll_66 (by decide) ?_
      obtain ⟨kk11, nn12, ek, en, h⟩ := h
      rw [ek, en]
      refine aw_new (c := 11) (n := 9) (r := (RX10, TX10, 9)) rfl rfl nw_RX3_46 d_X3_comeAll_68 ?_
      refine aw_dupR d_X3_comeAll_71 ?_
      refine aw_aload (i := 5) d_X3_comeAll_72 rfl ?_
      refine aw_iload_n (i := 3) d_X3_comeAll_74 rfl rfl ?_
      refine aw_aload (i := 5) d_X3_comeAll_75 rfl ?_
      refine aw_getRv fl_RX3_38 rfl (r := (gR σ9 6 11 j7)) rfl d_X3_comeAll_77 ?_
      refine aw_callI0 (as := [xR (some (6, j7)), xI v3, xR (gR σ9 6 11 j7)]) mw_X10_init rfl rfl ml_RX3_48 rfl d_X3_comeAll_80 rfl (Nat.le_of_ble_eq_true rfl) (AMet.mono h (aw_toV (fun σ13 h => ?_)))
      obtain ⟨hS13, h⟩ := h
      refine aw_astore (i := 7) d_X3_comeAll_83 (by decide) ?_
      refine aw_aload (i := 7) d_X3_comeAll_85 rfl ?_
      refine aw_aload (i := 5) d_X3_comeAll_87 rfl ?_
      refine aw_getR fl_RX3_38 rfl d_X3_comeAll_89 ?_
      obtain ⟨j14, ej14, h⟩ := h
      rw [ej14]
      refine aw_getI fl_RX3_51 rfl d_X3_comeAll_92 ?_
      refine aw_iload (i := 6) d_X3_comeAll_95 rfl ?_
      refine aw_iadd d_X3_comeAll_97 ?_
      refine aw_putI fl_RX3_57 (by decide) (fin_no (r := (RX10, TX10, 9)) rfl rfl) d_X3_comeAll_98 rfl ⟨rfl, rfl⟩ ?_
      refine aw_aload_n (i := 0) d_X3_comeAll_101 rfl rfl ?_
      refine aw_getRv fl_RX3_12 rfl (r := some (0, 3)) (St.get (St.sI hS13) 4 0 0 0 3 (by decide)) d_X3_comeAll_102 ?_
      refine aw_aload (i := 7) d_X3_comeAll_105 rfl ?_
      obtain ⟨mc18, ms19, kk16, nn17, ek, en, h⟩ := h
      rw [ek, en]
      refine aw_callV (as := [xR (some (11, (cnt σ9 11)))]) mw_Jx4a65c_add_9ea2d (by decide +kernel) ml_RX3_60 rfl d_X3_comeAll_107 rfl (Nat.le_of_ble_eq_true rfl) (AMet.mono h (aw_toI (fun x20 σ15 h => ?_)))
      refine aw_popI d_X3_comeAll_110 ?_
      refine aw_aload_n (i := 0) d_X3_comeAll_111 rfl rfl ?_
      refine aw_aload (i := 7) d_X3_comeAll_112 rfl ?_
      obtain ⟨mc24, ms25, kk22, nn23, ek, en, h⟩ := h
      rw [ek, en]
      refine aw_callV (as := [xR (some (11, (cnt σ9 11)))]) mw_X3_queue (by decide +kernel) ml_RX3_64 rfl d_X3_comeAll_114 rfl (Nat.le_of_ble_eq_true rfl) (AMet.mono h (aw_toV (fun σ21 h => ?_)))
      refine aw_iinc (i := 4) (v := v4 + 1) d_X3_comeAll_117 rfl rfl (by decide) ?_
      refine aw_goto (tgt := 17) d_X3_comeAll_120 (by decide) ?_
      exact AW.weak h (by exact ⟨rfl, ⟨rfl, ⟨rfl, ⟨rfl, ⟨rfl, trivial⟩⟩⟩⟩⟩)
set_option maxRecDepth 20000 in
theorem vc_X3_following {G : GG} {l : Launch} {d : Nat} {post : Option AVal → AS → Prop} {σ : AS} {kk nn : Nat} {a1 : Int32} (h : post (some (xI ((a1 * 1103515245) + 12345))) σ) : AW G l M_X3_following d post σ kk nn 0 [some (xI a1)] [] := by
  refine aw_iload_n (i := 0) d_X3_following_0 rfl rfl ?_
  refine aw_ldcI (x := 1103515245) d_X3_following_1 ct_RX3_68 ?_
  refine aw_imul d_X3_following_3 ?_
  refine aw_sipush (x := 12345) d_X3_following_4 (by decide) ?_
  refine aw_iadd d_X3_following_7 ?_
  exact aw_ret d_X3_following_8 rfl rfl h
set_option maxRecDepth 20000 in
theorem vc_X3_queue {G : GG} {l : Launch} {d : Nat} {post : Option AVal → AS → Prop} {σ : AS} {kk nn : Nat} {p1 : Nat} (h : AW G l M_X3_queue (d + 1) post σ kk nn 2 [some (xR (some (4, 0))), some (xR (some (11, p1))), some (xI 0)] []) : AW G l M_X3_queue (d + 1) post σ kk nn 0 [some (xR (some (4, 0))), some (xR (some (11, p1))), none] [] := by
  refine aw_iconst (x := 0) d_X3_queue_0 (by decide) ?_
  refine aw_istore_n (i := 2) d_X3_queue_1 rfl (by decide) ?_
  exact h
set_option maxRecDepth 20000 in
theorem vc_X3_queue_2 {G : GG} {l : Launch} {d : Nat} {post : Option AVal → AS → Prop} {σ : AS} {kk nn : Nat} {v1 : Nat} {v2 : Int32} (hS : St σ) (h : AMet G l M_Jx4a65c_size_8abf5 d 0 0 [xR (some (0, 4))] σ (retI (fun x2 σ1 => (St σ1 ∧ (((x2 ≤ v2 → (∃ mc6 ms7 kk4 nn5 : Nat, (kk = kk4 + mc6 ∧ nn = nn5 + ms7 ∧ (AMet G l M_Jx4a65c_add_7a177 d mc6 ms7 [xR (some (0, 4)), xI v2, xR (some (11, v1))] σ1 (retV (fun σ3 => post none σ3))))))) ∧ ((¬ x2 ≤ v2 → AMet G l M_Jx4a65c_get_915e3 d 0 0 [xR (some (0, 4)), xI v2] σ1 (retR (fun r9 σ8 => (St σ8 ∧ ((∃ j10 : Nat, (r9 = some (11, j10) ∧ ((((gI σ8 11 4 v1) < (gI σ8 11 4 j10) → (∃ mc14 ms15 kk12 nn13 : Nat, (kk = kk12 + mc14 ∧ nn = nn13 + ms15 ∧ (AMet G l M_Jx4a65c_add_7a177 d mc14 ms15 [xR (some (0, 4)), xI v2, xR (some (11, v1))] σ8 (retV (fun σ11 => post none σ11))))))) ∧ ((¬ (gI σ8 11 4 v1) < (gI σ8 11 4 j10) → AW G l M_X3_queue (d + 1) post σ8 kk nn 2 [some (xR (some (4, 0))), some (xR (some (11, v1))), some (xI (v2 + 1))] [])))))))))))))))) : AW G l M_X3_queue (d + 1) post σ kk nn 2 [some (xR (some (4, 0))), some (xR (some (11, v1))), some (xI v2)] [] := by
  refine aw_iload_n (i := 2) d_X3_queue_2 rfl rfl ?_
  refine aw_aload_n (i := 0) d_X3_queue_3 rfl rfl ?_
  refine aw_getRv fl_RX3_18 rfl (r := some (0, 4)) (St.get hS 4 1 0 0 4 (by decide)) d_X3_queue_4 ?_
  refine aw_callV0 (as := []) mw_Jx4a65c_size_8abf5 (by decide +kernel) ml_RX3_28 rfl d_X3_queue_7 rfl (Nat.le_of_ble_eq_true rfl) (AMet.mono h (aw_toI (fun x2 σ1 h => ?_)))
  obtain ⟨hS1, h⟩ := h
  refine aw_icmp_ge (tgt := 40) d_X3_queue_10 (by decide) (fun c => ?_) (fun c => ?_)
  · have h := h.1 c
    refine aw_aload_n (i := 0) d_X3_queue_40 rfl rfl ?_
    refine aw_getRv fl_RX3_18 rfl (r := some (0, 4)) (St.get hS1 4 1 0 0 4 (by decide)) d_X3_queue_41 ?_
    refine aw_iload_n (i := 2) d_X3_queue_44 rfl rfl ?_
    refine aw_aload_n (i := 1) d_X3_queue_45 rfl rfl ?_
    obtain ⟨mc6, ms7, kk4, nn5, ek, en, h⟩ := h
    rw [ek, en]
    refine aw_callV (as := [xI v2, xR (some (11, v1))]) mw_Jx4a65c_add_7a177 (by decide +kernel) ml_RX3_69 rfl d_X3_queue_46 rfl (Nat.le_of_ble_eq_true rfl) (AMet.mono h (aw_toV (fun σ3 h => ?_)))
    exact aw_vret d_X3_queue_49 rfl h
  · have h := h.2 c
    refine aw_aload_n (i := 0) d_X3_queue_13 rfl rfl ?_
    refine aw_getRv fl_RX3_18 rfl (r := some (0, 4)) (St.get hS1 4 1 0 0 4 (by decide)) d_X3_queue_14 ?_
    refine aw_iload_n (i := 2) d_X3_queue_17 rfl rfl ?_
    refine aw_callV0 (as := [xI v2]) mw_Jx4a65c_get_915e3 (by decide +kernel) ml_RX3_32 rfl d_X3_queue_18 rfl (Nat.le_of_ble_eq_true rfl) (AMet.mono h (aw_toR (fun r9 σ8 h => ?_)))
    obtain ⟨hS8, h⟩ := h
    obtain ⟨j10, ej10, h⟩ := h
    rw [ej10]
    refine aw_cast (c := 11) (by decide) cl_RX3_46 d_X3_queue_21 ?_
    refine aw_getI fl_RX3_57 rfl d_X3_queue_24 ?_
    refine aw_aload_n (i := 1) d_X3_queue_27 rfl rfl ?_
    refine aw_getI fl_RX3_57 rfl d_X3_queue_28 ?_
    refine aw_icmp_gt (tgt := 40) d_X3_queue_31 (by decide) (fun c => ?_) (fun c => ?_)
    · have h := h.1 c
      refine aw_aload_n (i := 0) d_X3_queue_40 rfl rfl ?_
      refine aw_getRv fl_RX3_18 rfl (r := some (0, 4)) (St.get hS8 4 1 0 0 4 (by decide)) d_X3_queue_41 ?_
      refine aw_iload_n (i := 2) d_X3_queue_44 rfl rfl ?_
      refine aw_aload_n (i := 1) d_X3_queue_45 rfl rfl ?_
      obtain ⟨mc14, ms15, kk12, nn13, ek, en, h⟩ := h
      rw [ek, en]
      refine aw_callV (as := [xI v2, xR (some (11, v1))]) mw_Jx4a65c_add_7a177 (by decide +kernel) ml_RX3_69 rfl d_X3_queue_46 rfl (Nat.le_of_ble_eq_true rfl) (AMet.mono h (aw_toV (fun σ11 h => ?_)))
      exact aw_vret d_X3_queue_49 rfl h
    · have h := h.2 c
      refine aw_iinc (i := 2) (v := v2 + 1) d_X3_queue_34 rfl rfl (by decide) ?_
      refine aw_goto (tgt := 2) d_X3_queue_37 (by decide) ?_
      exact h
set_option maxRecDepth 20000 in
theorem vc_X3_dressAll {G : GG} {l : Launch} {d : Nat} {post : Option AVal → AS → Prop} {σ : AS} {kk nn : Nat} {a1 : Int32} (h : AW G l M_X3_dressAll (d + 1) post σ kk nn 2 [some (xR (some (4, 0))), some (xI a1), some (xI 0), none, none] []) : AW G l M_X3_dressAll (d + 1) post σ kk nn 0 [some (xR (some (4, 0))), some (xI a1), none, none, none] [] := by
  refine aw_iconst (x := 0) d_X3_dressAll_0 (by decide) ?_
  refine aw_istore_n (i := 2) d_X3_dressAll_1 rfl (by decide) ?_
  exact h
set_option maxRecDepth 20000 in
theorem vc_X3_dressAll_2 {G : GG} {l : Launch} {d : Nat} {post : Option AVal → AS → Prop} {σ : AS} {kk nn : Nat} {v1 : Int32} {v2 : Int32} (hS : St σ) (h : ((((nI 5) ≤ v2 → AW G l M_X3_dressAll (d + 1) post σ kk nn 26 [some (xR (some (4, 0))), some (xI v1), some (xI 0), none, none] [])) ∧ ((¬ (nI 5) ≤ v2 → (vp_in v2 5 ∧ AW G l M_X3_dressAll (d + 1) post (sA σ 20 5 v2.toNatClampNeg 0) kk nn 2 [some (xR (some (4, 0))), some (xI v1), some (xI (v2 + 1)), none, none] []))))) : AW G l M_X3_dressAll (d + 1) post σ kk nn 2 [some (xR (some (4, 0))), some (xI v1), some (xI v2), none, none] [] := by
  refine aw_iload_n (i := 2) d_X3_dressAll_2 rfl rfl ?_
  refine aw_aload_n (i := 0) d_X3_dressAll_3 rfl rfl ?_
  refine aw_getRv fl_RX3_21 rfl (r := some (20, 5)) (St.get hS 4 2 0 20 5 (by decide)) d_X3_dressAll_4 ?_
  refine aw_alenv (n := 5) (St.len hS 20 5 5 (by decide)) d_X3_dressAll_7 (by decide) ?_
  refine aw_icmp_ge (tgt := 24) d_X3_dressAll_8 (by decide) (fun c => ?_) (fun c => ?_)
  · have h := h.1 c
    refine aw_iconst (x := 0) d_X3_dressAll_24 (by decide) ?_
    refine aw_istore_n (i := 2) d_X3_dressAll_25 rfl (by decide) ?_
    exact h
  · have h := h.2 c
    refine aw_aload_n (i := 0) d_X3_dressAll_11 rfl rfl ?_
    refine aw_getRv fl_RX3_21 rfl (r := some (20, 5)) (St.get hS 4 2 0 20 5 (by decide)) d_X3_dressAll_12 ?_
    refine aw_iload_n (i := 2) d_X3_dressAll_15 rfl rfl ?_
    refine aw_iconst (x := 0) d_X3_dressAll_16 (by decide) ?_
    obtain ⟨hq, h⟩ := h
    refine aw_iast d_X3_dressAll_17 (by decide) (vp_of (St.len hS 20 5 5 (by decide)) hq) ?_
    refine aw_iinc (i := 2) (v := v2 + 1) d_X3_dressAll_18 rfl rfl (by decide) ?_
    refine aw_goto (tgt := 2) d_X3_dressAll_21 (by decide) ?_
    exact h
set_option maxRecDepth 20000 in
theorem vc_X3_dressAll_26 {G : GG} {l : Launch} {d : Nat} {post : Option AVal → AS → Prop} {σ : AS} {kk nn : Nat} {v1 : Int32} {v2 : Int32} (hS : St σ) (h : AMet G l M_Jx4a65c_size_8abf5 d 0 0 [xR (some (0, 4))] σ (retI (fun x2 σ1 => (St σ1 ∧ (((x2 ≤ v2 → post none σ1)) ∧ ((¬ x2 ≤ v2 → AMet G l M_Jx4a65c_get_915e3 d 0 0 [xR (some (0, 4)), xI v2] σ1 (retR (fun r4 σ3 => (∃ j5 : Nat, (r4 = some (11, j5) ∧ (AMet G l M_X3_firstFree d 0 0 [xR (some (4, 0)), xI v1] σ3 (retI (fun x7 σ6 => (St σ6 ∧ (((x7 < 0 → AW G l M_X3_dressAll (d + 1) post σ6 kk nn 26 [some (xR (some (4, 0))), some (xI v1), some (xI (v2 + 1)), none, none] [])) ∧ ((¬ x7 < 0 → ((((nI 5) ≤ x7 → AW G l M_X3_dressAll (d + 1) post σ6 kk nn 26 [some (xR (some (4, 0))), some (xI v1), some (xI (v2 + 1)), none, none] [])) ∧ ((¬ (nI 5) ≤ x7 → (vp_in x7 5 ∧ ((∃ j8 : Nat, ((gR σ6 11 0 j5) = some (6, j8) ∧ (vp_in x7 5 ∧ ((∃ j9 : Nat, ((gR σ6 11 2 j5) = some (2, j9) ∧ AW G l M_X3_dressAll (d + 1) post (sI (sA (sI σ6 11 5 j5 ((if (gA σ6 20 5 x7.toNatClampNeg) < (gI σ6 11 4 j5) then (gI σ6 11 4 j5) else (gA σ6 20 5 x7.toNatClampNeg)) + (gI σ6 6 5 j8))) 20 5 x7.toNatClampNeg ((if (gA σ6 20 5 x7.toNatClampNeg) < (gI σ6 11 4 j5) then (gI σ6 11 4 j5) else (gA σ6 20 5 x7.toNatClampNeg)) + (gI σ6 6 5 j8))) 2 7 j9 (if (gI σ6 2 7 j9) < ((if (gA σ6 20 5 x7.toNatClampNeg) < (gI σ6 11 4 j5) then (gI σ6 11 4 j5) else (gA σ6 20 5 x7.toNatClampNeg)) + (gI σ6 6 5 j8)) then ((if (gA σ6 20 5 x7.toNatClampNeg) < (gI σ6 11 4 j5) then (gI σ6 11 4 j5) else (gA σ6 20 5 x7.toNatClampNeg)) + (gI σ6 6 5 j8)) else (gI σ6 2 7 j9))) kk nn 26 [some (xR (some (4, 0))), some (xI v1), some (xI (v2 + 1)), none, none] []))))))))))))))))))))))))))))) : AW G l M_X3_dressAll (d + 1) post σ kk nn 26 [some (xR (some (4, 0))), some (xI v1), some (xI v2), none, none] [] := by
  refine aw_iload_n (i := 2) d_X3_dressAll_26 rfl rfl ?_
  refine aw_aload_n (i := 0) d_X3_dressAll_27 rfl rfl ?_
  refine aw_getRv fl_RX3_18 rfl (r := some (0, 4)) (St.get hS 4 1 0 0 4 (by decide)) d_X3_dressAll_28 ?_
  refine aw_callV0 (as := []) mw_Jx4a65c_size_8abf5 (by decide +kernel) ml_RX3_28 rfl d_X3_dressAll_31 rfl (Nat.le_of_ble_eq_true rfl) (AMet.mono h (aw_toI (fun x2 σ1 h => ?_)))
  obtain ⟨hS1, h⟩ := h
  refine aw_icmp_ge (tgt := 135) d_X3_dressAll_34 (by decide) (fun c => ?_) (fun c => ?_)
  · have h := h.1 c
    exact aw_vret d_X3_dressAll_135 rfl h
  · have h := h.2 c
    refine aw_aload_n (i := 0) d_X3_dressAll_37 rfl rfl ?_
    refine aw_getRv fl_RX3_18 rfl (r := some (0, 4)) (St.get hS1 4 1 0 0 4 (by decide)) d_X3_dressAll_38 ?_
    refine aw_iload_n (i := 2) d_X3_dressAll_41 rfl rfl ?_
    refine aw_callV0 (as := [xI v2]) mw_Jx4a65c_get_915e3 (by decide +kernel) ml_RX3_32 rfl d_X3_dressAll_42 rfl (Nat.le_of_ble_eq_true rfl) (AMet.mono h (aw_toR (fun r4 σ3 h => ?_)))
    obtain ⟨j5, ej5, h⟩ := h
    rw [ej5]
    refine aw_cast (c := 11) (by decide) cl_RX3_46 d_X3_dressAll_45 ?_
    refine aw_astore_n (i := 3) d_X3_dressAll_48 rfl (by decide) ?_
    refine aw_aload_n (i := 0) d_X3_dressAll_49 rfl rfl ?_
    refine aw_iload_n (i := 1) d_X3_dressAll_50 rfl rfl ?_
    refine aw_callV0 (as := [xI v1]) mw_X3_firstFree (by decide +kernel) ml_RX3_72 rfl d_X3_dressAll_51 rfl (Nat.le_of_ble_eq_true rfl) (AMet.mono h (aw_toI (fun x7 σ6 h => ?_)))
    obtain ⟨hS6, h⟩ := h
    refine aw_istore (i := 4) d_X3_dressAll_54 (by decide) ?_
    refine aw_iload (i := 4) d_X3_dressAll_56 rfl ?_
    refine aw_if_lt (tgt := 129) d_X3_dressAll_58 (by decide) (fun c => ?_) (fun c => ?_)
    · have h := h.1 c
      refine aw_iinc (i := 2) (v := v2 + 1) d_X3_dressAll_129 rfl rfl (by decide) ?_
      refine aw_goto (tgt := 26) d_X3_dressAll_132 (by decide) ?_
      exact AW.weak h (by exact ⟨rfl, ⟨rfl, ⟨rfl, trivial⟩⟩⟩)
    · have h := h.2 c
      refine aw_iload (i := 4) d_X3_dressAll_61 rfl ?_
      refine aw_aload_n (i := 0) d_X3_dressAll_63 rfl rfl ?_
      refine aw_getRv fl_RX3_21 rfl (r := some (20, 5)) (St.get hS6 4 2 0 20 5 (by decide)) d_X3_dressAll_64 ?_
      refine aw_alenv (n := 5) (St.len hS6 20 5 5 (by decide)) d_X3_dressAll_67 (by decide) ?_
      refine aw_icmp_ge (tgt := 129) d_X3_dressAll_68 (by decide) (fun c => ?_) (fun c => ?_)
      · have h := h.1 c
        refine aw_iinc (i := 2) (v := v2 + 1) d_X3_dressAll_129 rfl rfl (by decide) ?_
        refine aw_goto (tgt := 26) d_X3_dressAll_132 (by decide) ?_
        exact AW.weak h (by exact ⟨rfl, ⟨rfl, ⟨rfl, trivial⟩⟩⟩)
      · have h := h.2 c
        refine aw_aload_n (i := 3) d_X3_dressAll_71 rfl rfl ?_
        refine aw_aload_n (i := 0) d_X3_dressAll_72 rfl rfl ?_
        refine aw_getRv fl_RX3_21 rfl (r := some (20, 5)) (St.get hS6 4 2 0 20 5 (by decide)) d_X3_dressAll_73 ?_
        refine aw_iload (i := 4) d_X3_dressAll_76 rfl ?_
        obtain ⟨hq, h⟩ := h
        refine aw_iald d_X3_dressAll_78 (by decide) (vp_of (St.len hS6 20 5 5 (by decide)) hq) ?_
        refine aw_aload_n (i := 3) d_X3_dressAll_79 rfl rfl ?_
        refine aw_getI fl_RX3_57 rfl d_X3_dressAll_80 ?_
        refine aw_mmax ml_RX3_75 d_X3_dressAll_83 (Nat.le_of_ble_eq_true rfl) ?_
        refine aw_aload_n (i := 3) d_X3_dressAll_86 rfl rfl ?_
        refine aw_getR fl_RX3_81 rfl d_X3_dressAll_87 ?_
        obtain ⟨j8, ej8, h⟩ := h
        rw [ej8]
        refine aw_getI fl_RX3_85 rfl d_X3_dressAll_90 ?_
        refine aw_iadd d_X3_dressAll_93 ?_
        refine aw_putI fl_RX3_88 (by decide) (fin_no (r := (RX10, TX10, 9)) rfl rfl) d_X3_dressAll_94 rfl ⟨rfl, rfl⟩ ?_
        refine aw_aload_n (i := 0) d_X3_dressAll_97 rfl rfl ?_
        refine aw_getRv fl_RX3_21 rfl (r := some (20, 5)) (St.get (St.sI hS6) 4 2 0 20 5 (by decide)) d_X3_dressAll_98 ?_
        refine aw_iload (i := 4) d_X3_dressAll_101 rfl ?_
        refine aw_aload_n (i := 3) d_X3_dressAll_103 rfl rfl ?_
        refine aw_getIv fl_RX3_88 rfl (x := ((if (gA σ6 20 5 x7.toNatClampNeg) < (gI σ6 11 4 j5) then (gI σ6 11 4 j5) else (gA σ6 20 5 x7.toNatClampNeg)) + (gI σ6 6 5 j8))) (gI_self (σ := σ6) (c := 11) (f := 5) (i := j5) (v := ((if (gA σ6 20 5 x7.toNatClampNeg) < (gI σ6 11 4 j5) then (gI σ6 11 4 j5) else (gA σ6 20 5 x7.toNatClampNeg)) + (gI σ6 6 5 j8)))) d_X3_dressAll_104 ?_
        obtain ⟨hq, h⟩ := h
        refine aw_iast d_X3_dressAll_107 (by decide) (vp_of (St.len (St.sI hS6) 20 5 5 (by decide)) hq) ?_
        refine aw_aload_n (i := 3) d_X3_dressAll_108 rfl rfl ?_
        refine aw_getRv fl_RX3_91 rfl (r := (gR σ6 11 2 j5)) rfl d_X3_dressAll_109 ?_
        refine aw_aload_n (i := 3) d_X3_dressAll_112 rfl rfl ?_
        refine aw_getRv fl_RX3_91 rfl (r := (gR σ6 11 2 j5)) rfl d_X3_dressAll_113 ?_
        obtain ⟨j9, ej9, h⟩ := h
        rw [ej9]
        refine aw_getIv fl_RX3_94 rfl (x := gI σ6 2 7 j9) rfl d_X3_dressAll_116 ?_
        refine aw_aload_n (i := 3) d_X3_dressAll_119 rfl rfl ?_
        refine aw_getIv fl_RX3_88 rfl (x := ((if (gA σ6 20 5 x7.toNatClampNeg) < (gI σ6 11 4 j5) then (gI σ6 11 4 j5) else (gA σ6 20 5 x7.toNatClampNeg)) + (gI σ6 6 5 j8))) (gI_self (σ := σ6) (c := 11) (f := 5) (i := j5) (v := ((if (gA σ6 20 5 x7.toNatClampNeg) < (gI σ6 11 4 j5) then (gI σ6 11 4 j5) else (gA σ6 20 5 x7.toNatClampNeg)) + (gI σ6 6 5 j8)))) d_X3_dressAll_120 ?_
        refine aw_mmax ml_RX3_75 d_X3_dressAll_123 (Nat.le_of_ble_eq_true rfl) ?_
        refine aw_putI fl_RX3_94 (by decide) (fin_no (r := (RX1, TX1, 9)) rfl rfl) d_X3_dressAll_126 rfl ⟨rfl, rfl⟩ ?_
        refine aw_iinc (i := 2) (v := v2 + 1) d_X3_dressAll_129 rfl rfl (by decide) ?_
        refine aw_goto (tgt := 26) d_X3_dressAll_132 (by decide) ?_
        exact AW.weak h (by exact ⟨rfl, ⟨rfl, ⟨rfl, trivial⟩⟩⟩)
set_option maxRecDepth 20000 in
theorem vc_X3_firstFree {G : GG} {l : Launch} {d : Nat} {post : Option AVal → AS → Prop} {σ : AS} {kk nn : Nat} {a1 : Int32} (h : AW G l M_X3_firstFree d post σ kk nn 4 [some (xR (some (4, 0))), some (xI a1), some (xI 0), some (xI 1)] []) : AW G l M_X3_firstFree d post σ kk nn 0 [some (xR (some (4, 0))), some (xI a1), none, none] [] := by
  refine aw_iconst (x := 0) d_X3_firstFree_0 (by decide) ?_
  refine aw_istore_n (i := 2) d_X3_firstFree_1 rfl (by decide) ?_
  refine aw_iconst (x := 1) d_X3_firstFree_2 (by decide) ?_
  refine aw_istore_n (i := 3) d_X3_firstFree_3 rfl (by decide) ?_
  exact h
set_option maxRecDepth 20000 in
theorem vc_X3_firstFree_4 {G : GG} {l : Launch} {d : Nat} {post : Option AVal → AS → Prop} {σ : AS} {kk nn : Nat} {v1 : Int32} {v2 : Int32} {v3 : Int32} (hS : St σ) (h : (((v1 ≤ v3 → post (some (xI v2)) σ)) ∧ ((¬ v1 ≤ v3 → ((((nI 5) ≤ v3 → post (some (xI v2)) σ)) ∧ ((¬ (nI 5) ≤ v3 → (vp_in v3 5 ∧ (vp_in v2 5 ∧ ((((gA σ 20 5 v2.toNatClampNeg) ≤ (gA σ 20 5 v3.toNatClampNeg) → AW G l M_X3_firstFree d post σ kk nn 4 [some (xR (some (4, 0))), some (xI v1), some (xI v2), some (xI (v3 + 1))] [])) ∧ ((¬ (gA σ 20 5 v2.toNatClampNeg) ≤ (gA σ 20 5 v3.toNatClampNeg) → AW G l M_X3_firstFree d post σ kk nn 4 [some (xR (some (4, 0))), some (xI v1), some (xI v3), some (xI (v3 + 1))] [])))))))))))) : AW G l M_X3_firstFree d post σ kk nn 4 [some (xR (some (4, 0))), some (xI v1), some (xI v2), some (xI v3)] [] := by
  refine aw_iload_n (i := 3) d_X3_firstFree_4 rfl rfl ?_
  refine aw_iload_n (i := 1) d_X3_firstFree_5 rfl rfl ?_
  refine aw_icmp_ge (tgt := 41) d_X3_firstFree_6 (by decide) (fun c => ?_) (fun c => ?_)
  · have h := h.1 c
    refine aw_iload_n (i := 2) d_X3_firstFree_41 rfl rfl ?_
    exact aw_ret d_X3_firstFree_42 rfl rfl h
  · have h := h.2 c
    refine aw_iload_n (i := 3) d_X3_firstFree_9 rfl rfl ?_
    refine aw_aload_n (i := 0) d_X3_firstFree_10 rfl rfl ?_
    refine aw_getRv fl_RX3_21 rfl (r := some (20, 5)) (St.get hS 4 2 0 20 5 (by decide)) d_X3_firstFree_11 ?_
    refine aw_alenv (n := 5) (St.len hS 20 5 5 (by decide)) d_X3_firstFree_14 (by decide) ?_
    refine aw_icmp_ge (tgt := 41) d_X3_firstFree_15 (by decide) (fun c => ?_) (fun c => ?_)
    · have h := h.1 c
      refine aw_iload_n (i := 2) d_X3_firstFree_41 rfl rfl ?_
      exact aw_ret d_X3_firstFree_42 rfl rfl h
    · have h := h.2 c
      refine aw_aload_n (i := 0) d_X3_firstFree_18 rfl rfl ?_
      refine aw_getRv fl_RX3_21 rfl (r := some (20, 5)) (St.get hS 4 2 0 20 5 (by decide)) d_X3_firstFree_19 ?_
      refine aw_iload_n (i := 3) d_X3_firstFree_22 rfl rfl ?_
      obtain ⟨hq, h⟩ := h
      refine aw_iald d_X3_firstFree_23 (by decide) (vp_of (St.len hS 20 5 5 (by decide)) hq) ?_
      refine aw_aload_n (i := 0) d_X3_firstFree_24 rfl rfl ?_
      refine aw_getRv fl_RX3_21 rfl (r := some (20, 5)) (St.get hS 4 2 0 20 5 (by decide)) d_X3_firstFree_25 ?_
      refine aw_iload_n (i := 2) d_X3_firstFree_28 rfl rfl ?_
      obtain ⟨hq, h⟩ := h
      refine aw_iald d_X3_firstFree_29 (by decide) (vp_of (St.len hS 20 5 5 (by decide)) hq) ?_
      refine aw_icmp_ge (tgt := 35) d_X3_firstFree_30 (by decide) (fun c => ?_) (fun c => ?_)
      · have h := h.1 c
        refine aw_iinc (i := 3) (v := v3 + 1) d_X3_firstFree_35 rfl rfl (by decide) ?_
        refine aw_goto (tgt := 4) d_X3_firstFree_38 (by decide) ?_
        exact h
      · have h := h.2 c
        refine aw_iload_n (i := 3) d_X3_firstFree_33 rfl rfl ?_
        refine aw_istore_n (i := 2) d_X3_firstFree_34 rfl (by decide) ?_
        refine aw_iinc (i := 3) (v := v3 + 1) d_X3_firstFree_35 rfl rfl (by decide) ?_
        refine aw_goto (tgt := 4) d_X3_firstFree_38 (by decide) ?_
        exact h
set_option maxRecDepth 20000 in
theorem vc_X4_init {G : GG} {l : Launch} {d : Nat} {post : Option AVal → AS → Prop} {σ : AS} {kk nn : Nat}  (h : (∃ kk1 nn2 : Nat, (kk = kk1 + 1 ∧ nn = nn2 + 2 ∧ ((∃ mc6 ms7 kk4 nn5 : Nat, (kk1 = kk4 + mc6 ∧ nn2 = nn5 + ms7 ∧ (AMet G l M_X7_init d mc6 ms7 [xR (some (8, (cnt σ 8))), xI 2600] (nO σ 8) (retV (fun σ3 => (∃ kk8 nn9 : Nat, (kk4 = kk8 + 1 ∧ nn5 = nn9 + 2 ∧ ((∃ mc13 ms14 kk11 nn12 : Nat, (kk8 = kk11 + mc13 ∧ nn9 = nn12 + ms14 ∧ (AMet G l M_X7_init d mc13 ms14 [xR (some (8, (cnt (sR σ3 5 0 0 (some (8, (cnt σ 8)))) 8))), xI 2600] (nO (sR σ3 5 0 0 (some (8, (cnt σ 8)))) 8) (retV (fun σ10 => post none (sR σ10 5 1 0 (some (8, (cnt (sR σ3 5 0 0 (some (8, (cnt σ 8)))) 8))))))))))))))))))))) : AW G l M_X4_init (d + 1) post σ kk nn 0 [some (xR (some (5, 0)))] [] := by
  refine aw_aload_n (i := 0) d_X4_init_0 rfl rfl ?_
  refine aw_objInit oi_RX4_3 d_X4_init_1 (Nat.le_of_ble_eq_true rfl) ?_
  refine aw_aload_n (i := 0) d_X4_init_4 rfl rfl ?_
  obtain ⟨kk1, nn2, ek, en, h⟩ := h
  rw [ek, en]
  refine aw_new (c := 8) (n := 2) (r := (RX7, TX7, 2)) rfl rfl nw_RX4_9 d_X4_init_5 ?_
  refine aw_dupR d_X4_init_8 ?_
  refine aw_sipush (x := 2600) d_X4_init_9 (by decide) ?_
  obtain ⟨mc6, ms7, kk4, nn5, ek, en, h⟩ := h
  rw [ek, en]
  refine aw_callI (as := [xI 2600]) mw_X7_init rfl rfl ml_RX4_11 rfl d_X4_init_12 rfl (Nat.le_of_ble_eq_true rfl) (AMet.mono h (aw_toV (fun σ3 h => ?_)))
  refine aw_putR fl_RX4_14 (by decide) (fin_init (r := (RX4, TX4, 3)) rfl rfl rfl) d_X4_init_15 rfl (by decide) ?_
  refine aw_aload_n (i := 0) d_X4_init_18 rfl rfl ?_
  obtain ⟨kk8, nn9, ek, en, h⟩ := h
  rw [ek, en]
  refine aw_new (c := 8) (n := 2) (r := (RX7, TX7, 2)) rfl rfl nw_RX4_9 d_X4_init_19 ?_
  refine aw_dupR d_X4_init_22 ?_
  refine aw_sipush (x := 2600) d_X4_init_23 (by decide) ?_
  obtain ⟨mc13, ms14, kk11, nn12, ek, en, h⟩ := h
  rw [ek, en]
  refine aw_callI (as := [xI 2600]) mw_X7_init rfl rfl ml_RX4_11 rfl d_X4_init_26 rfl (Nat.le_of_ble_eq_true rfl) (AMet.mono h (aw_toV (fun σ10 h => ?_)))
  refine aw_putR fl_RX4_20 (by decide) (fin_init (r := (RX4, TX4, 3)) rfl rfl rfl) d_X4_init_29 rfl (by decide) ?_
  exact aw_vret d_X4_init_32 rfl h
set_option maxRecDepth 20000 in
theorem vc_X4_size {G : GG} {l : Launch} {d : Nat} {post : Option AVal → AS → Prop} {σ : AS} {kk nn : Nat}  (hS : St σ) (h : post (some (xI (gI σ 8 1 2))) σ) : AW G l M_X4_size d post σ kk nn 0 [some (xR (some (5, 0)))] [] := by
  refine aw_aload_n (i := 0) d_X4_size_0 rfl rfl ?_
  refine aw_getRv fl_RX4_14 rfl (r := some (8, 2)) (St.get hS 5 0 0 8 2 (by decide)) d_X4_size_1 ?_
  refine aw_getI fl_RX4_23 rfl d_X4_size_4 ?_
  exact aw_ret d_X4_size_7 rfl rfl h
set_option maxRecDepth 20000 in
theorem vc_X4_add {G : GG} {l : Launch} {d : Nat} {post : Option AVal → AS → Prop} {σ : AS} {kk nn : Nat} {p1 : Nat} {a2 : Int32} (hS : St σ) (h : AMet G l M_X7_add d 0 0 [xR (some (8, 2)), xI (gI σ 6 0 p1)] σ (retV (fun σ1 => (St σ1 ∧ (AMet G l M_X7_add d 0 0 [xR (some (8, 3)), xI a2] σ1 (retV (fun σ2 => (St σ2 ∧ post (some (xI ((gI σ2 8 1 2) - 1))) (sI σ2 6 9 p1 ((gI σ2 6 9 p1) ||| (1 <<< (a2 &&& 31)))))))))))) : AW G l M_X4_add (d + 1) post σ kk nn 0 [some (xR (some (5, 0))), some (xR (some (6, p1))), some (xI a2)] [] := by
  refine aw_aload_n (i := 0) d_X4_add_0 rfl rfl ?_
  refine aw_getRv fl_RX4_14 rfl (r := some (8, 2)) (St.get hS 5 0 0 8 2 (by decide)) d_X4_add_1 ?_
  refine aw_aload_n (i := 1) d_X4_add_4 rfl rfl ?_
  refine aw_getI fl_RX4_27 rfl d_X4_add_5 ?_
  refine aw_callV0 (as := [xI (gI σ 6 0 p1)]) mw_X7_add (by decide +kernel) ml_RX4_32 rfl d_X4_add_8 rfl (Nat.le_of_ble_eq_true rfl) (AMet.mono h (aw_toV (fun σ1 h => ?_)))
  obtain ⟨hS1, h⟩ := h
  refine aw_aload_n (i := 0) d_X4_add_11 rfl rfl ?_
  refine aw_getRv fl_RX4_20 rfl (r := some (8, 3)) (St.get hS1 5 1 0 8 3 (by decide)) d_X4_add_12 ?_
  refine aw_iload_n (i := 2) d_X4_add_15 rfl rfl ?_
  refine aw_callV0 (as := [xI a2]) mw_X7_add (by decide +kernel) ml_RX4_32 rfl d_X4_add_16 rfl (Nat.le_of_ble_eq_true rfl) (AMet.mono h (aw_toV (fun σ2 h => ?_)))
  obtain ⟨hS2, h⟩ := h
  refine aw_aload_n (i := 1) d_X4_add_19 rfl rfl ?_
  refine aw_dupR d_X4_add_20 ?_
  refine aw_getI fl_RX4_35 rfl d_X4_add_21 ?_
  refine aw_iconst (x := 1) d_X4_add_24 (by decide) ?_
  refine aw_iload_n (i := 2) d_X4_add_25 rfl rfl ?_
  refine aw_ishl d_X4_add_26 ?_
  refine aw_ior d_X4_add_27 ?_
  refine aw_putI fl_RX4_35 (by decide) (fin_no (r := (RX5, TX5, 12)) rfl rfl) d_X4_add_28 rfl ⟨rfl, rfl⟩ ?_
  refine aw_aload_n (i := 0) d_X4_add_31 rfl rfl ?_
  refine aw_getRv fl_RX4_14 rfl (r := some (8, 2)) (St.get (St.sI hS2) 5 0 0 8 2 (by decide)) d_X4_add_32 ?_
  refine aw_getIv fl_RX4_23 rfl (x := gI σ2 8 1 2) rfl d_X4_add_35 ?_
  refine aw_iconst (x := 1) d_X4_add_38 (by decide) ?_
  refine aw_isub d_X4_add_39 ?_
  exact aw_ret d_X4_add_40 rfl rfl h
set_option maxRecDepth 20000 in
theorem vc_X4_howOften {G : GG} {l : Launch} {d : Nat} {post : Option AVal → AS → Prop} {σ : AS} {kk nn : Nat} {a1 : Int32} {a2 : Int32} {a3 : Int32} (h : AW G l M_X4_howOften (d + 1) post σ kk nn 6 [some (xR (some (5, 0))), some (xI a1), some (xI a2), some (xI a3), some (xI 0), some (xI 0)] []) : AW G l M_X4_howOften (d + 1) post σ kk nn 0 [some (xR (some (5, 0))), some (xI a1), some (xI a2), some (xI a3), none, none] [] := by
  refine aw_iconst (x := 0) d_X4_howOften_0 (by decide) ?_
  refine aw_istore (i := 4) d_X4_howOften_1 (by decide) ?_
  refine aw_iconst (x := 0) d_X4_howOften_3 (by decide) ?_
  refine aw_istore (i := 5) d_X4_howOften_4 (by decide) ?_
  exact h
set_option maxRecDepth 20000 in
theorem vc_X4_howOften_6 {G : GG} {l : Launch} {d : Nat} {post : Option AVal → AS → Prop} {σ : AS} {kk nn : Nat} {v1 : Int32} {v2 : Int32} {v3 : Int32} {v4 : Int32} {v5 : Int32} (hS : St σ) (h : (((v3 ≤ v5 → post (some (xI v4)) σ)) ∧ ((¬ v3 ≤ v5 → ((((gI σ 8 1 2) ≤ v5 → post (some (xI v4)) σ)) ∧ ((¬ (gI σ 8 1 2) ≤ v5 → AMet G l M_X7_at d 0 0 [xR (some (8, 2)), xI v5] σ (retI (fun x2 σ1 => (St σ1 ∧ (((¬ x2 = v1 → AW G l M_X4_howOften (d + 1) post σ1 kk nn 6 [some (xR (some (5, 0))), some (xI v1), some (xI v2), some (xI v3), some (xI v4), some (xI (v5 + 1))] [])) ∧ ((x2 = v1 → AMet G l M_X7_at d 0 0 [xR (some (8, 3)), xI v5] σ1 (retI (fun x4 σ3 => (((¬ x4 = v2 → AW G l M_X4_howOften (d + 1) post σ3 kk nn 6 [some (xR (some (5, 0))), some (xI v1), some (xI v2), some (xI v3), some (xI v4), some (xI (v5 + 1))] [])) ∧ ((x4 = v2 → AW G l M_X4_howOften (d + 1) post σ3 kk nn 6 [some (xR (some (5, 0))), some (xI v1), some (xI v2), some (xI v3), some (xI (v4 + 1)), some (xI (v5 + 1))] [])))))))))))))))))) : AW G l M_X4_howOften (d + 1) post σ kk nn 6 [some (xR (some (5, 0))), some (xI v1), some (xI v2), some (xI v3), some (xI v4), some (xI v5)] [] := by
  refine aw_iload (i := 5) d_X4_howOften_6 rfl ?_
  refine aw_iload_n (i := 3) d_X4_howOften_8 rfl rfl ?_
  refine aw_icmp_ge (tgt := 59) d_X4_howOften_9 (by decide) (fun c => ?_) (fun c => ?_)
  · have h := h.1 c
    refine aw_iload (i := 4) d_X4_howOften_59 rfl ?_
    exact aw_ret d_X4_howOften_61 rfl rfl h
  · have h := h.2 c
    refine aw_iload (i := 5) d_X4_howOften_12 rfl ?_
    refine aw_aload_n (i := 0) d_X4_howOften_14 rfl rfl ?_
    refine aw_getRv fl_RX4_14 rfl (r := some (8, 2)) (St.get hS 5 0 0 8 2 (by decide)) d_X4_howOften_15 ?_
    refine aw_getI fl_RX4_23 rfl d_X4_howOften_18 ?_
    refine aw_icmp_ge (tgt := 59) d_X4_howOften_21 (by decide) (fun c => ?_) (fun c => ?_)
    · have h := h.1 c
      refine aw_iload (i := 4) d_X4_howOften_59 rfl ?_
      exact aw_ret d_X4_howOften_61 rfl rfl h
    · have h := h.2 c
      refine aw_aload_n (i := 0) d_X4_howOften_24 rfl rfl ?_
      refine aw_getRv fl_RX4_14 rfl (r := some (8, 2)) (St.get hS 5 0 0 8 2 (by decide)) d_X4_howOften_25 ?_
      refine aw_iload (i := 5) d_X4_howOften_28 rfl ?_
      refine aw_callV0 (as := [xI v5]) mw_X7_at (by decide +kernel) ml_RX4_38 rfl d_X4_howOften_30 rfl (Nat.le_of_ble_eq_true rfl) (AMet.mono h (aw_toI (fun x2 σ1 h => ?_)))
      obtain ⟨hS1, h⟩ := h
      refine aw_iload_n (i := 1) d_X4_howOften_33 rfl rfl ?_
      refine aw_icmp_ne (tgt := 53) d_X4_howOften_34 (by decide) (fun c => ?_) (fun c => ?_)
      · have h := h.1 c
        refine aw_iinc (i := 5) (v := v5 + 1) d_X4_howOften_53 rfl rfl (by decide) ?_
        refine aw_goto (tgt := 6) d_X4_howOften_56 (by decide) ?_
        exact h
      · have h := h.2 c
        refine aw_aload_n (i := 0) d_X4_howOften_37 rfl rfl ?_
        refine aw_getRv fl_RX4_20 rfl (r := some (8, 3)) (St.get hS1 5 1 0 8 3 (by decide)) d_X4_howOften_38 ?_
        refine aw_iload (i := 5) d_X4_howOften_41 rfl ?_
        refine aw_callV0 (as := [xI v5]) mw_X7_at (by decide +kernel) ml_RX4_38 rfl d_X4_howOften_43 rfl (Nat.le_of_ble_eq_true rfl) (AMet.mono h (aw_toI (fun x4 σ3 h => ?_)))
        refine aw_iload_n (i := 2) d_X4_howOften_46 rfl rfl ?_
        refine aw_icmp_ne (tgt := 53) d_X4_howOften_47 (by decide) (fun c => ?_) (fun c => ?_)
        · have h := h.1 c
          refine aw_iinc (i := 5) (v := v5 + 1) d_X4_howOften_53 rfl rfl (by decide) ?_
          refine aw_goto (tgt := 6) d_X4_howOften_56 (by decide) ?_
          exact h
        · have h := h.2 c
          refine aw_iinc (i := 4) (v := v4 + 1) d_X4_howOften_50 rfl rfl (by decide) ?_
          refine aw_iinc (i := 5) (v := v5 + 1) d_X4_howOften_53 rfl rfl (by decide) ?_
          refine aw_goto (tgt := 6) d_X4_howOften_56 (by decide) ?_
          exact h
set_option maxRecDepth 20000 in
theorem vc_X5_init {G : GG} {l : Launch} {d : Nat} {post : Option AVal → AS → Prop} {σ : AS} {kk nn : Nat} {i0 : Nat} {a1 : Int32} {a2 : Int32} {a3 : Int32} {a4 : Int32} {a5 : Int32} {a6 : Int32} (h : post none (sI (sI (sI (sI (sI (sI σ 6 0 i0 a1) 6 1 i0 a2) 6 2 i0 a3) 6 3 i0 a4) 6 4 i0 a5) 6 5 i0 a6)) : AW G l M_X5_init (d + 1) post σ kk nn 0 [some (xR (some (6, i0))), some (xI a1), some (xI a2), some (xI a3), some (xI a4), some (xI a5), some (xI a6)] [] := by
  refine aw_aload_n (i := 0) d_X5_init_0 rfl rfl ?_
  refine aw_objInit oi_RX5_3 d_X5_init_1 (Nat.le_of_ble_eq_true rfl) ?_
  refine aw_aload_n (i := 0) d_X5_init_4 rfl rfl ?_
  refine aw_iload_n (i := 1) d_X5_init_5 rfl rfl ?_
  refine aw_putI fl_RX5_9 (by decide) (fin_init (r := (RX5, TX5, 12)) rfl rfl rfl) d_X5_init_6 rfl ⟨rfl, rfl⟩ ?_
  refine aw_aload_n (i := 0) d_X5_init_9 rfl rfl ?_
  refine aw_iload_n (i := 2) d_X5_init_10 rfl rfl ?_
  refine aw_putI fl_RX5_15 (by decide) (fin_init (r := (RX5, TX5, 12)) rfl rfl rfl) d_X5_init_11 rfl ⟨rfl, rfl⟩ ?_
  refine aw_aload_n (i := 0) d_X5_init_14 rfl rfl ?_
  refine aw_iload_n (i := 3) d_X5_init_15 rfl rfl ?_
  refine aw_putI fl_RX5_18 (by decide) (fin_init (r := (RX5, TX5, 12)) rfl rfl rfl) d_X5_init_16 rfl ⟨rfl, rfl⟩ ?_
  refine aw_aload_n (i := 0) d_X5_init_19 rfl rfl ?_
  refine aw_iload (i := 4) d_X5_init_20 rfl ?_
  refine aw_putI fl_RX5_21 (by decide) (fin_init (r := (RX5, TX5, 12)) rfl rfl rfl) d_X5_init_22 rfl ⟨rfl, rfl⟩ ?_
  refine aw_aload_n (i := 0) d_X5_init_25 rfl rfl ?_
  refine aw_iload (i := 5) d_X5_init_26 rfl ?_
  refine aw_putI fl_RX5_24 (by decide) (fin_init (r := (RX5, TX5, 12)) rfl rfl rfl) d_X5_init_28 rfl ⟨rfl, rfl⟩ ?_
  refine aw_aload_n (i := 0) d_X5_init_31 rfl rfl ?_
  refine aw_iload (i := 6) d_X5_init_32 rfl ?_
  refine aw_putI fl_RX5_27 (by decide) (fin_init (r := (RX5, TX5, 12)) rfl rfl rfl) d_X5_init_34 rfl ⟨rfl, rfl⟩ ?_
  exact aw_vret d_X5_init_37 rfl h
set_option maxRecDepth 20000 in
theorem vc_X5_wasIn {G : GG} {l : Launch} {d : Nat} {post : Option AVal → AS → Prop} {σ : AS} {kk nn : Nat} {i0 : Nat} {a1 : Int32} (h : (((¬ (((gI σ 6 9 i0) >>> (a1 &&& 31)) &&& 1) = 1 → post (some (xI 0)) σ)) ∧ (((((gI σ 6 9 i0) >>> (a1 &&& 31)) &&& 1) = 1 → post (some (xI 1)) σ)))) : AW G l M_X5_wasIn d post σ kk nn 0 [some (xR (some (6, i0))), some (xI a1)] [] := by
  refine aw_aload_n (i := 0) d_X5_wasIn_0 rfl rfl ?_
  refine aw_getI fl_RX5_30 rfl d_X5_wasIn_1 ?_
  refine aw_iload_n (i := 1) d_X5_wasIn_4 rfl rfl ?_
  refine aw_ishr d_X5_wasIn_5 ?_
  refine aw_iconst (x := 1) d_X5_wasIn_6 (by decide) ?_
  refine aw_iand d_X5_wasIn_7 ?_
  refine aw_iconst (x := 1) d_X5_wasIn_8 (by decide) ?_
  refine aw_icmp_ne (tgt := 16) d_X5_wasIn_9 (by decide) (fun c => ?_) (fun c => ?_)
  · have h := h.1 c
    refine aw_iconst (x := 0) d_X5_wasIn_16 (by decide) ?_
    exact aw_ret d_X5_wasIn_17 rfl (by decide) h
  · have h := h.2 c
    refine aw_iconst (x := 1) d_X5_wasIn_12 (by decide) ?_
    refine aw_goto (tgt := 17) d_X5_wasIn_13 (by decide) ?_
    exact aw_ret d_X5_wasIn_17 rfl (by decide) h
set_option maxRecDepth 20000 in
theorem vc_X5_canBeIn {G : GG} {l : Launch} {d : Nat} {post : Option AVal → AS → Prop} {σ : AS} {kk nn : Nat} {i0 : Nat} {p1 : Nat} (h : (((¬ (((gI σ 6 10 i0) >>> ((gI σ 2 0 p1) &&& 31)) &&& 1) = 1 → post (some (xI 0)) σ)) ∧ (((((gI σ 6 10 i0) >>> ((gI σ 2 0 p1) &&& 31)) &&& 1) = 1 → post (some (xI 1)) σ)))) : AW G l M_X5_canBeIn d post σ kk nn 0 [some (xR (some (6, i0))), some (xR (some (2, p1)))] [] := by
  refine aw_aload_n (i := 0) d_X5_canBeIn_0 rfl rfl ?_
  refine aw_getI fl_RX5_33 rfl d_X5_canBeIn_1 ?_
  refine aw_aload_n (i := 1) d_X5_canBeIn_4 rfl rfl ?_
  refine aw_getI fl_RX5_36 rfl d_X5_canBeIn_5 ?_
  refine aw_ishr d_X5_canBeIn_8 ?_
  refine aw_iconst (x := 1) d_X5_canBeIn_9 (by decide) ?_
  refine aw_iand d_X5_canBeIn_10 ?_
  refine aw_iconst (x := 1) d_X5_canBeIn_11 (by decide) ?_
  refine aw_icmp_ne (tgt := 19) d_X5_canBeIn_12 (by decide) (fun c => ?_) (fun c => ?_)
  · have h := h.1 c
    refine aw_iconst (x := 0) d_X5_canBeIn_19 (by decide) ?_
    exact aw_ret d_X5_canBeIn_20 rfl (by decide) h
  · have h := h.2 c
    refine aw_iconst (x := 1) d_X5_canBeIn_15 (by decide) ?_
    refine aw_goto (tgt := 20) d_X5_canBeIn_16 (by decide) ?_
    exact aw_ret d_X5_canBeIn_20 rfl (by decide) h
set_option maxRecDepth 20000 in
theorem vc_X5_moveTo {G : GG} {l : Launch} {d : Nat} {post : Option AVal → AS → Prop} {σ : AS} {kk nn : Nat} {i0 : Nat} {a1 : Option Nm} (h : ((((gR σ 6 11 i0) = none → (((a1 = none → post none (sR σ 6 11 i0 none))) ∧ ((∀ n : Nm, (a1 = some n → (∃ j1 : Nat, (n = (2, j1) ∧ post none (sI (sR σ 6 11 i0 (some (2, j1))) 2 6 j1 ((gI σ 2 6 j1) + 1)))))))))) ∧ ((∀ n : Nm, ((gR σ 6 11 i0) = some n → (∃ j2 : Nat, (n = (2, j2) ∧ ((∃ j3 : Nat, ((gR σ 6 11 i0) = some (2, j3) ∧ (((a1 = none → post none (sR (sI σ 2 6 j3 ((gI σ 2 6 j3) - 1)) 6 11 i0 none))) ∧ ((∀ n : Nm, (a1 = some n → (∃ j4 : Nat, (n = (2, j4) ∧ post none (sI (sR (sI σ 2 6 j3 ((gI σ 2 6 j3) - 1)) 6 11 i0 (some (2, j4))) 2 6 j4 ((gI (sI σ 2 6 j3 ((gI σ 2 6 j3) - 1)) 2 6 j4) + 1)))))))))))))))))) : AW G l M_X5_moveTo d post σ kk nn 0 [some (xR (some (6, i0))), some (xR a1)] [] := by
  refine aw_aload_n (i := 0) d_X5_moveTo_0 rfl rfl ?_
  refine aw_getR fl_RX5_39 rfl d_X5_moveTo_1 ?_
  refine aw_ifnull (tgt := 20) d_X5_moveTo_4 (by decide) (fun c => ?_) (fun n c => ?_)
  · have h := h.1 c
    try rw [c]
    refine aw_aload_n (i := 0) d_X5_moveTo_20 rfl rfl ?_
    refine aw_aload_n (i := 1) d_X5_moveTo_21 rfl rfl ?_
    refine aw_putR fl_RX5_39 (by decide) (fin_no (r := (RX5, TX5, 12)) rfl rfl) d_X5_moveTo_22 rfl (by decide) ?_
    refine aw_aload_n (i := 1) d_X5_moveTo_25 rfl rfl ?_
    refine aw_ifnull (tgt := 39) d_X5_moveTo_26 (by decide) (fun c => ?_) (fun n c => ?_)
    · have h := h.1 c
      try rw [c]
      exact aw_vret d_X5_moveTo_39 rfl h
    · obtain ⟨j1, e9, h⟩ := h.2 n c
      subst e9
      try rw [c]
      refine aw_aload_n (i := 1) d_X5_moveTo_29 rfl rfl ?_
      refine aw_dupR d_X5_moveTo_30 ?_
      refine aw_getIv fl_RX5_43 rfl (x := gI σ 2 6 j1) rfl d_X5_moveTo_31 ?_
      refine aw_iconst (x := 1) d_X5_moveTo_34 (by decide) ?_
      refine aw_iadd d_X5_moveTo_35 ?_
      refine aw_putI fl_RX5_43 (by decide) (fin_no (r := (RX1, TX1, 9)) rfl rfl) d_X5_moveTo_36 rfl ⟨rfl, rfl⟩ ?_
      exact aw_vret d_X5_moveTo_39 rfl h
  · obtain ⟨j2, e9, h⟩ := h.2 n c
    subst e9
    try rw [c]
    refine aw_aload_n (i := 0) d_X5_moveTo_7 rfl rfl ?_
    refine aw_getR fl_RX5_39 rfl d_X5_moveTo_8 ?_
    refine aw_dupR d_X5_moveTo_11 ?_
    obtain ⟨j3, ej3, h⟩ := h
    rw [ej3]
    refine aw_getI fl_RX5_43 rfl d_X5_moveTo_12 ?_
    refine aw_iconst (x := 1) d_X5_moveTo_15 (by decide) ?_
    refine aw_isub d_X5_moveTo_16 ?_
    refine aw_putI fl_RX5_43 (by decide) (fin_no (r := (RX1, TX1, 9)) rfl rfl) d_X5_moveTo_17 rfl ⟨rfl, rfl⟩ ?_
    refine aw_aload_n (i := 0) d_X5_moveTo_20 rfl rfl ?_
    refine aw_aload_n (i := 1) d_X5_moveTo_21 rfl rfl ?_
    refine aw_putR fl_RX5_39 (by decide) (fin_no (r := (RX5, TX5, 12)) rfl rfl) d_X5_moveTo_22 rfl (by decide) ?_
    refine aw_aload_n (i := 1) d_X5_moveTo_25 rfl rfl ?_
    refine aw_ifnull (tgt := 39) d_X5_moveTo_26 (by decide) (fun c => ?_) (fun n c => ?_)
    · have h := h.1 c
      try rw [c]
      exact aw_vret d_X5_moveTo_39 rfl h
    · obtain ⟨j4, e9, h⟩ := h.2 n c
      subst e9
      try rw [c]
      refine aw_aload_n (i := 1) d_X5_moveTo_29 rfl rfl ?_
      refine aw_dupR d_X5_moveTo_30 ?_
      refine aw_getIv fl_RX5_43 rfl (x := gI (sI σ 2 6 j3 ((gI σ 2 6 j3) - 1)) 2 6 j4) rfl d_X5_moveTo_31 ?_
      refine aw_iconst (x := 1) d_X5_moveTo_34 (by decide) ?_
      refine aw_iadd d_X5_moveTo_35 ?_
      refine aw_putI fl_RX5_43 (by decide) (fin_no (r := (RX1, TX1, 9)) rfl rfl) d_X5_moveTo_36 rfl ⟨rfl, rfl⟩ ?_
      exact aw_vret d_X5_moveTo_39 rfl h
set_option maxRecDepth 20000 in
theorem vc_X5_answer {G : GG} {l : Launch} {d : Nat} {post : Option AVal → AS → Prop} {σ : AS} {kk nn : Nat} {i0 : Nat} {a1 : Int32} (h : (((a1 = 0 → post (some (xI (gI σ 6 1 i0))) σ)) ∧ ((a1 = 1 → post (some (xI (gI σ 6 2 i0))) σ)) ∧ ((a1 = 2 → post (some (xI (gI σ 6 3 i0))) σ)) ∧ ((a1 = 3 → post (some (xI (gI σ 6 4 i0))) σ)) ∧ ((a1 = 4 → post (some (xI (gI σ 6 5 i0))) σ)) ∧ ((a1 = 5 → ((((gI σ 6 6 i0) = 0 → post (some (xI 0)) σ)) ∧ ((¬ (gI σ 6 6 i0) = 0 → post (some (xI 1)) σ))))) ∧ ((a1 = 6 → post (some (xI (gI σ 6 7 i0))) σ)) ∧ ((a1 = 7 → post (some (xI (gI σ 6 8 i0))) σ)) ∧ (((a1.toInt < 0 ∨ 7 < a1.toInt) → post (some (xI (-1))) σ)))) : AW G l M_X5_answer d post σ kk nn 0 [some (xR (some (6, i0))), some (xI a1)] [] := by
  refine aw_iload_n (i := 1) d_X5_answer_0 rfl rfl ?_
  by_cases c0 : a1 = 0
  · have c := c0
    have h := h.1 c
    refine aw_sw (k := 0) (off := 47) (tgt := 48) d_X5_answer_1 c (by decide) (by decide) (by decide) (by decide) ?_
    refine aw_aload_n (i := 0) d_X5_answer_48 rfl rfl ?_
    refine aw_getI fl_RX5_15 rfl d_X5_answer_49 ?_
    exact aw_ret d_X5_answer_52 rfl rfl h
  by_cases c1 : a1 = 1
  · have c := c1
    have h := h.2.1 c
    refine aw_sw (k := 1) (off := 52) (tgt := 53) d_X5_answer_1 c (by decide) (by decide) (by decide) (by decide) ?_
    refine aw_aload_n (i := 0) d_X5_answer_53 rfl rfl ?_
    refine aw_getI fl_RX5_18 rfl d_X5_answer_54 ?_
    exact aw_ret d_X5_answer_57 rfl rfl h
  by_cases c2 : a1 = 2
  · have c := c2
    have h := h.2.2.1 c
    refine aw_sw (k := 2) (off := 57) (tgt := 58) d_X5_answer_1 c (by decide) (by decide) (by decide) (by decide) ?_
    refine aw_aload_n (i := 0) d_X5_answer_58 rfl rfl ?_
    refine aw_getI fl_RX5_21 rfl d_X5_answer_59 ?_
    exact aw_ret d_X5_answer_62 rfl rfl h
  by_cases c3 : a1 = 3
  · have c := c3
    have h := h.2.2.2.1 c
    refine aw_sw (k := 3) (off := 62) (tgt := 63) d_X5_answer_1 c (by decide) (by decide) (by decide) (by decide) ?_
    refine aw_aload_n (i := 0) d_X5_answer_63 rfl rfl ?_
    refine aw_getI fl_RX5_24 rfl d_X5_answer_64 ?_
    exact aw_ret d_X5_answer_67 rfl rfl h
  by_cases c4 : a1 = 4
  · have c := c4
    have h := h.2.2.2.2.1 c
    refine aw_sw (k := 4) (off := 67) (tgt := 68) d_X5_answer_1 c (by decide) (by decide) (by decide) (by decide) ?_
    refine aw_aload_n (i := 0) d_X5_answer_68 rfl rfl ?_
    refine aw_getI fl_RX5_27 rfl d_X5_answer_69 ?_
    exact aw_ret d_X5_answer_72 rfl rfl h
  by_cases c5 : a1 = 5
  · have c := c5
    have h := h.2.2.2.2.2.1 c
    refine aw_sw (k := 5) (off := 72) (tgt := 73) d_X5_answer_1 c (by decide) (by decide) (by decide) (by decide) ?_
    refine aw_aload_n (i := 0) d_X5_answer_73 rfl rfl ?_
    refine aw_getI fl_RX5_46 rfl d_X5_answer_74 ?_
    refine aw_if_eq (tgt := 84) d_X5_answer_77 (by decide) (fun c => ?_) (fun c => ?_)
    · have h := h.1 c
      refine aw_iconst (x := 0) d_X5_answer_84 (by decide) ?_
      exact aw_ret d_X5_answer_85 rfl rfl h
    · have h := h.2 c
      refine aw_iconst (x := 1) d_X5_answer_80 (by decide) ?_
      refine aw_goto (tgt := 85) d_X5_answer_81 (by decide) ?_
      exact aw_ret d_X5_answer_85 rfl rfl h
  by_cases c6 : a1 = 6
  · have c := c6
    have h := h.2.2.2.2.2.2.1 c
    refine aw_sw (k := 6) (off := 85) (tgt := 86) d_X5_answer_1 c (by decide) (by decide) (by decide) (by decide) ?_
    refine aw_aload_n (i := 0) d_X5_answer_86 rfl rfl ?_
    refine aw_getI fl_RX5_50 rfl d_X5_answer_87 ?_
    exact aw_ret d_X5_answer_90 rfl rfl h
  by_cases c7 : a1 = 7
  · have c := c7
    have h := h.2.2.2.2.2.2.2.1 c
    refine aw_sw (k := 7) (off := 90) (tgt := 91) d_X5_answer_1 c (by decide) (by decide) (by decide) (by decide) ?_
    refine aw_aload_n (i := 0) d_X5_answer_91 rfl rfl ?_
    refine aw_getI fl_RX5_53 rfl d_X5_answer_92 ?_
    exact aw_ret d_X5_answer_95 rfl rfl h
  have c : a1.toInt < 0 ∨ 7 < a1.toInt := by
    have q0 : ¬ a1.toInt = 0 := fun e => c0 (i32_eq (e.trans (by decide)))
    have q1 : ¬ a1.toInt = 1 := fun e => c1 (i32_eq (e.trans (by decide)))
    have q2 : ¬ a1.toInt = 2 := fun e => c2 (i32_eq (e.trans (by decide)))
    have q3 : ¬ a1.toInt = 3 := fun e => c3 (i32_eq (e.trans (by decide)))
    have q4 : ¬ a1.toInt = 4 := fun e => c4 (i32_eq (e.trans (by decide)))
    have q5 : ¬ a1.toInt = 5 := fun e => c5 (i32_eq (e.trans (by decide)))
    have q6 : ¬ a1.toInt = 6 := fun e => c6 (i32_eq (e.trans (by decide)))
    have q7 : ¬ a1.toInt = 7 := fun e => c7 (i32_eq (e.trans (by decide)))
    omega
  have h := h.2.2.2.2.2.2.2.2 c
  refine aw_switchOut (tgt := 96) d_X5_answer_1 c (by decide) ?_
  refine aw_iconst (x := -1) d_X5_answer_96 (by decide) ?_
  exact aw_ret d_X5_answer_97 rfl rfl h
set_option maxRecDepth 20000 in
theorem vc_X6_init {G : GG} {l : Launch} {d : Nat} {post : Option AVal → AS → Prop} {σ : AS} {kk nn : Nat}  (h : (∃ kk1 nn2 : Nat, (kk = kk1 + 1 ∧ nn = nn2 + 3 ∧ (AMet G l M_Jx4a65c_init_da8c8 d 0 0 [xR (some (0, (cnt σ 0)))] (nO σ 0) (retV (fun σ3 => (∃ kk4 nn5 : Nat, (kk1 = kk4 + 1 ∧ nn2 = nn5 + 3 ∧ (AMet G l M_Jx4a65c_init_da8c8 d 0 0 [xR (some (0, (cnt (sR σ3 7 2 0 (some (0, (cnt σ 0)))) 0)))] (nO (sR σ3 7 2 0 (some (0, (cnt σ 0)))) 0) (retV (fun σ6 => (∃ kk7 nn8 : Nat, (kk4 = kk7 + 1 ∧ nn5 = nn8 + 2 ∧ ((∃ mc12 ms13 kk10 nn11 : Nat, (kk7 = kk10 + mc12 ∧ nn8 = nn11 + ms13 ∧ (AMet G l M_X7_init d mc12 ms13 [xR (some (8, (cnt (sR σ6 7 0 0 (some (0, (cnt (sR σ3 7 2 0 (some (0, (cnt σ 0)))) 0)))) 8))), xI 6] (nO (sR σ6 7 0 0 (some (0, (cnt (sR σ3 7 2 0 (some (0, (cnt σ 0)))) 0)))) 8) (retV (fun σ9 => post none (sR σ9 7 1 0 (some (8, (cnt (sR σ6 7 0 0 (some (0, (cnt (sR σ3 7 2 0 (some (0, (cnt σ 0)))) 0)))) 8))))))))))))))))))))))) : AW G l M_X6_init (d + 1) post σ kk nn 0 [some (xR (some (7, 0)))] [] := by
  refine aw_aload_n (i := 0) d_X6_init_0 rfl rfl ?_
  refine aw_objInit oi_RX6_3 d_X6_init_1 (Nat.le_of_ble_eq_true rfl) ?_
  refine aw_aload_n (i := 0) d_X6_init_4 rfl rfl ?_
  obtain ⟨kk1, nn2, ek, en, h⟩ := h
  rw [ek, en]
  refine aw_new (c := 0) (n := 3) (r := (RJx4a65c, TJx4a65c, 3)) rfl rfl nw_RX6_9 d_X6_init_5 ?_
  refine aw_dupR d_X6_init_8 ?_
  refine aw_callI0 (as := []) mw_Jx4a65c_init_da8c8 rfl rfl ml_RX6_11 rfl d_X6_init_9 rfl (Nat.le_of_ble_eq_true rfl) (AMet.mono h (aw_toV (fun σ3 h => ?_)))
  refine aw_putR fl_RX6_12 (by decide) (fin_init (r := (RX6, TX6, 4)) rfl rfl rfl) d_X6_init_12 rfl (by decide) ?_
  refine aw_aload_n (i := 0) d_X6_init_15 rfl rfl ?_
  obtain ⟨kk4, nn5, ek, en, h⟩ := h
  rw [ek, en]
  refine aw_new (c := 0) (n := 3) (r := (RJx4a65c, TJx4a65c, 3)) rfl rfl nw_RX6_9 d_X6_init_16 ?_
  refine aw_dupR d_X6_init_19 ?_
  refine aw_callI0 (as := []) mw_Jx4a65c_init_da8c8 rfl rfl ml_RX6_11 rfl d_X6_init_20 rfl (Nat.le_of_ble_eq_true rfl) (AMet.mono h (aw_toV (fun σ6 h => ?_)))
  refine aw_putR fl_RX6_18 (by decide) (fin_no (r := (RX6, TX6, 4)) rfl rfl) d_X6_init_23 rfl (by decide) ?_
  refine aw_aload_n (i := 0) d_X6_init_26 rfl rfl ?_
  obtain ⟨kk7, nn8, ek, en, h⟩ := h
  rw [ek, en]
  refine aw_new (c := 8) (n := 2) (r := (RX7, TX7, 2)) rfl rfl nw_RX6_21 d_X6_init_27 ?_
  refine aw_dupR d_X6_init_30 ?_
  refine aw_bipush (x := 6) d_X6_init_31 (by decide) ?_
  obtain ⟨mc12, ms13, kk10, nn11, ek, en, h⟩ := h
  rw [ek, en]
  refine aw_callI (as := [xI 6]) mw_X7_init rfl rfl ml_RX6_23 rfl d_X6_init_33 rfl (Nat.le_of_ble_eq_true rfl) (AMet.mono h (aw_toV (fun σ9 h => ?_)))
  refine aw_putR fl_RX6_26 (by decide) (fin_init (r := (RX6, TX6, 4)) rfl rfl rfl) d_X6_init_36 rfl (by decide) ?_
  exact aw_vret d_X6_init_39 rfl h
set_option maxRecDepth 20000 in
theorem vc_X6_find {G : GG} {l : Launch} {d : Nat} {post : Option AVal → AS → Prop} {σ : AS} {kk nn : Nat} {a1 : Int32} (h : (((a1 < 0 → post (some (xR none)) σ)) ∧ ((¬ a1 < 0 → (∃ j1 : Nat, ((gR σ 7 0 0) = some (0, j1) ∧ (AMet G l M_Jx4a65c_size_8abf5 d 0 0 [xR (some (0, j1))] σ (retI (fun x3 σ2 => (((x3 ≤ a1 → post (some (xR none)) σ2)) ∧ ((¬ x3 ≤ a1 → (∃ j4 : Nat, ((gR σ2 7 0 0) = some (0, j4) ∧ (AMet G l M_Jx4a65c_get_915e3 d 0 0 [xR (some (0, j4)), xI a1] σ2 (retR (fun r6 σ5 => (∃ j7 : Nat, (r6 = some (2, j7) ∧ post (some (xR (some (2, j7)))) σ5))))))))))))))))))) : AW G l M_X6_find (d + 1) post σ kk nn 0 [some (xR (some (7, 0))), some (xI a1)] [] := by
  refine aw_iload_n (i := 1) d_X6_find_0 rfl rfl ?_
  refine aw_if_lt (tgt := 29) d_X6_find_1 (by decide) (fun c => ?_) (fun c => ?_)
  · have h := h.1 c
    refine aw_null d_X6_find_29 ?_
    exact aw_aret d_X6_find_30 rfl (Or.inl ⟨_, rfl⟩) h
  · have h := h.2 c
    refine aw_iload_n (i := 1) d_X6_find_4 rfl rfl ?_
    refine aw_aload_n (i := 0) d_X6_find_5 rfl rfl ?_
    refine aw_getR fl_RX6_18 rfl d_X6_find_6 ?_
    obtain ⟨j1, ej1, h⟩ := h
    rw [ej1]
    refine aw_callV0 (as := []) mw_Jx4a65c_size_8abf5 (by decide +kernel) ml_RX6_30 rfl d_X6_find_9 rfl (Nat.le_of_ble_eq_true rfl) (AMet.mono h (aw_toI (fun x3 σ2 h => ?_)))
    refine aw_icmp_ge (tgt := 29) d_X6_find_12 (by decide) (fun c => ?_) (fun c => ?_)
    · have h := h.1 c
      refine aw_null d_X6_find_29 ?_
      exact aw_aret d_X6_find_30 rfl (Or.inl ⟨_, rfl⟩) h
    · have h := h.2 c
      refine aw_aload_n (i := 0) d_X6_find_15 rfl rfl ?_
      refine aw_getR fl_RX6_18 rfl d_X6_find_16 ?_
      refine aw_iload_n (i := 1) d_X6_find_19 rfl rfl ?_
      obtain ⟨j4, ej4, h⟩ := h
      rw [ej4]
      refine aw_callV0 (as := [xI a1]) mw_Jx4a65c_get_915e3 (by decide +kernel) ml_RX6_34 rfl d_X6_find_20 rfl (Nat.le_of_ble_eq_true rfl) (AMet.mono h (aw_toR (fun r6 σ5 h => ?_)))
      obtain ⟨j7, ej7, h⟩ := h
      rw [ej7]
      refine aw_cast (c := 2) (by decide) cl_RX6_38 d_X6_find_23 ?_
      refine aw_goto (tgt := 30) d_X6_find_26 (by decide) ?_
      exact aw_aret d_X6_find_30 rfl (Or.inl ⟨_, rfl⟩) h
set_option maxRecDepth 20000 in
theorem vc_X6_size {G : GG} {l : Launch} {d : Nat} {post : Option AVal → AS → Prop} {σ : AS} {kk nn : Nat}  (h : AW G l M_X6_size (d + 1) post σ kk nn 4 [some (xR (some (7, 0))), some (xI 0), some (xI 0)] []) : AW G l M_X6_size (d + 1) post σ kk nn 0 [some (xR (some (7, 0))), none, none] [] := by
  refine aw_iconst (x := 0) d_X6_size_0 (by decide) ?_
  refine aw_istore_n (i := 1) d_X6_size_1 rfl (by decide) ?_
  refine aw_iconst (x := 0) d_X6_size_2 (by decide) ?_
  refine aw_istore_n (i := 2) d_X6_size_3 rfl (by decide) ?_
  exact h
set_option maxRecDepth 20000 in
theorem vc_X6_size_4 {G : GG} {l : Launch} {d : Nat} {post : Option AVal → AS → Prop} {σ : AS} {kk nn : Nat} {v1 : Int32} {v2 : Int32} (h : (∃ j1 : Nat, ((gR σ 7 0 0) = some (0, j1) ∧ (AMet G l M_Jx4a65c_size_8abf5 d 0 0 [xR (some (0, j1))] σ (retI (fun x3 σ2 => (((x3 ≤ v2 → post (some (xI v1)) σ2)) ∧ ((¬ x3 ≤ v2 → (∃ j4 : Nat, ((gR σ2 7 0 0) = some (0, j4) ∧ (AMet G l M_Jx4a65c_get_915e3 d 0 0 [xR (some (0, j4)), xI v2] σ2 (retR (fun r6 σ5 => (∃ j7 : Nat, (r6 = some (2, j7) ∧ AW G l M_X6_size (d + 1) post σ5 kk nn 4 [some (xR (some (7, 0))), some (xI (v1 + (gI σ5 2 6 j7))), some (xI (v2 + 1))] [])))))))))))))))) : AW G l M_X6_size (d + 1) post σ kk nn 4 [some (xR (some (7, 0))), some (xI v1), some (xI v2)] [] := by
  refine aw_iload_n (i := 2) d_X6_size_4 rfl rfl ?_
  refine aw_aload_n (i := 0) d_X6_size_5 rfl rfl ?_
  refine aw_getR fl_RX6_18 rfl d_X6_size_6 ?_
  obtain ⟨j1, ej1, h⟩ := h
  rw [ej1]
  refine aw_callV0 (as := []) mw_Jx4a65c_size_8abf5 (by decide +kernel) ml_RX6_30 rfl d_X6_size_9 rfl (Nat.le_of_ble_eq_true rfl) (AMet.mono h (aw_toI (fun x3 σ2 h => ?_)))
  refine aw_icmp_ge (tgt := 38) d_X6_size_12 (by decide) (fun c => ?_) (fun c => ?_)
  · have h := h.1 c
    refine aw_iload_n (i := 1) d_X6_size_38 rfl rfl ?_
    exact aw_ret d_X6_size_39 rfl rfl h
  · have h := h.2 c
    refine aw_iload_n (i := 1) d_X6_size_15 rfl rfl ?_
    refine aw_aload_n (i := 0) d_X6_size_16 rfl rfl ?_
    refine aw_getR fl_RX6_18 rfl d_X6_size_17 ?_
    refine aw_iload_n (i := 2) d_X6_size_20 rfl rfl ?_
    obtain ⟨j4, ej4, h⟩ := h
    rw [ej4]
    refine aw_callV0 (as := [xI v2]) mw_Jx4a65c_get_915e3 (by decide +kernel) ml_RX6_34 rfl d_X6_size_21 rfl (Nat.le_of_ble_eq_true rfl) (AMet.mono h (aw_toR (fun r6 σ5 h => ?_)))
    obtain ⟨j7, ej7, h⟩ := h
    rw [ej7]
    refine aw_cast (c := 2) (by decide) cl_RX6_38 d_X6_size_24 ?_
    refine aw_getI fl_RX6_40 rfl d_X6_size_27 ?_
    refine aw_iadd d_X6_size_30 ?_
    refine aw_istore_n (i := 1) d_X6_size_31 rfl (by decide) ?_
    refine aw_iinc (i := 2) (v := v2 + 1) d_X6_size_32 rfl rfl (by decide) ?_
    refine aw_goto (tgt := 4) d_X6_size_35 (by decide) ?_
    exact h
set_option maxRecDepth 20000 in
theorem vc_X6_startWith {G : GG} {l : Launch} {d : Nat} {post : Option AVal → AS → Prop} {σ : AS} {kk nn : Nat} {p1 : Nat} (h : AMet G l M_X6_dismissAll d 0 0 [xR (some (7, 0))] σ (retV (fun σ1 => post none (sR σ1 7 0 0 (some (0, p1)))))) : AW G l M_X6_startWith (d + 1) post σ kk nn 0 [some (xR (some (7, 0))), some (xR (some (0, p1)))] [] := by
  refine aw_aload_n (i := 0) d_X6_startWith_0 rfl rfl ?_
  refine aw_callV0 (as := []) mw_X6_dismissAll (by decide +kernel) ml_RX6_44 rfl d_X6_startWith_1 rfl (Nat.le_of_ble_eq_true rfl) (AMet.mono h (aw_toV (fun σ1 h => ?_)))
  refine aw_aload_n (i := 0) d_X6_startWith_4 rfl rfl ?_
  refine aw_aload_n (i := 1) d_X6_startWith_5 rfl rfl ?_
  refine aw_putR fl_RX6_18 (by decide) (fin_no (r := (RX6, TX6, 4)) rfl rfl) d_X6_startWith_6 rfl (by decide) ?_
  exact aw_vret d_X6_startWith_9 rfl h
set_option maxRecDepth 20000 in
theorem vc_X6_dismissAll {G : GG} {l : Launch} {d : Nat} {post : Option AVal → AS → Prop} {σ : AS} {kk nn : Nat}  (h : AW G l M_X6_dismissAll (d + 1) post σ kk nn 2 [some (xR (some (7, 0))), some (xI 0)] []) : AW G l M_X6_dismissAll (d + 1) post σ kk nn 0 [some (xR (some (7, 0))), none] [] := by
  refine aw_iconst (x := 0) d_X6_dismissAll_0 (by decide) ?_
  refine aw_istore_n (i := 1) d_X6_dismissAll_1 rfl (by decide) ?_
  exact h
set_option maxRecDepth 20000 in
theorem vc_X6_dismissAll_2 {G : GG} {l : Launch} {d : Nat} {post : Option AVal → AS → Prop} {σ : AS} {kk nn : Nat} {v1 : Int32} (hS : St σ) (h : AMet G l M_Jx4a65c_size_8abf5 d 0 0 [xR (some (0, 0))] σ (retI (fun x2 σ1 => (St σ1 ∧ (((x2 ≤ v1 → post none σ1)) ∧ ((¬ x2 ≤ v1 → AMet G l M_Jx4a65c_get_915e3 d 0 0 [xR (some (0, 0)), xI v1] σ1 (retR (fun r4 σ3 => (∃ j5 : Nat, (r4 = some (6, j5) ∧ (AMet G l M_X5_moveTo d 0 0 [xR (some (6, j5)), xR none] σ3 (retV (fun σ6 => AW G l M_X6_dismissAll (d + 1) post σ6 kk nn 2 [some (xR (some (7, 0))), some (xI (v1 + 1))] [])))))))))))))) : AW G l M_X6_dismissAll (d + 1) post σ kk nn 2 [some (xR (some (7, 0))), some (xI v1)] [] := by
  refine aw_iload_n (i := 1) d_X6_dismissAll_2 rfl rfl ?_
  refine aw_aload_n (i := 0) d_X6_dismissAll_3 rfl rfl ?_
  refine aw_getRv fl_RX6_12 rfl (r := some (0, 0)) (St.get hS 7 2 0 0 0 (by decide)) d_X6_dismissAll_4 ?_
  refine aw_callV0 (as := []) mw_Jx4a65c_size_8abf5 (by decide +kernel) ml_RX6_30 rfl d_X6_dismissAll_7 rfl (Nat.le_of_ble_eq_true rfl) (AMet.mono h (aw_toI (fun x2 σ1 h => ?_)))
  obtain ⟨hS1, h⟩ := h
  refine aw_icmp_ge (tgt := 34) d_X6_dismissAll_10 (by decide) (fun c => ?_) (fun c => ?_)
  · have h := h.1 c
    exact aw_vret d_X6_dismissAll_34 rfl h
  · have h := h.2 c
    refine aw_aload_n (i := 0) d_X6_dismissAll_13 rfl rfl ?_
    refine aw_getRv fl_RX6_12 rfl (r := some (0, 0)) (St.get hS1 7 2 0 0 0 (by decide)) d_X6_dismissAll_14 ?_
    refine aw_iload_n (i := 1) d_X6_dismissAll_17 rfl rfl ?_
    refine aw_callV0 (as := [xI v1]) mw_Jx4a65c_get_915e3 (by decide +kernel) ml_RX6_34 rfl d_X6_dismissAll_18 rfl (Nat.le_of_ble_eq_true rfl) (AMet.mono h (aw_toR (fun r4 σ3 h => ?_)))
    obtain ⟨j5, ej5, h⟩ := h
    rw [ej5]
    refine aw_cast (c := 6) (by decide) cl_RX6_47 d_X6_dismissAll_21 ?_
    refine aw_null d_X6_dismissAll_24 ?_
    refine aw_callV0 (as := [xR none]) mw_X5_moveTo (by decide +kernel) ml_RX6_49 rfl d_X6_dismissAll_25 rfl (Nat.le_of_ble_eq_true rfl) (AMet.mono h (aw_toV (fun σ6 h => ?_)))
    refine aw_iinc (i := 1) (v := v1 + 1) d_X6_dismissAll_28 rfl rfl (by decide) ?_
    refine aw_goto (tgt := 2) d_X6_dismissAll_31 (by decide) ?_
    exact h
set_option maxRecDepth 20000 in
theorem vc_X6_lookWhoIsOpen {G : GG} {l : Launch} {d : Nat} {post : Option AVal → AS → Prop} {σ : AS} {kk nn : Nat} {a1 : Int32} (h : AW G l M_X6_lookWhoIsOpen (d + 1) post σ kk nn 2 [some (xR (some (7, 0))), some (xI a1), some (xI 0), none, none] []) : AW G l M_X6_lookWhoIsOpen (d + 1) post σ kk nn 0 [some (xR (some (7, 0))), some (xI a1), none, none, none] [] := by
  refine aw_iconst (x := 0) d_X6_lookWhoIsOpen_0 (by decide) ?_
  refine aw_istore_n (i := 2) d_X6_lookWhoIsOpen_1 rfl (by decide) ?_
  exact h
set_option maxRecDepth 20000 in
theorem vc_X6_lookWhoIsOpen_2 {G : GG} {l : Launch} {d : Nat} {post : Option AVal → AS → Prop} {σ : AS} {kk nn : Nat} {v1 : Int32} {v2 : Int32} (hS : St σ) (h : AMet G l M_Jx4a65c_size_8abf5 d 0 0 [xR (some (0, 0))] σ (retI (fun x2 σ1 => (St σ1 ∧ (((x2 ≤ v2 → post none σ1)) ∧ ((¬ x2 ≤ v2 → AMet G l M_Jx4a65c_get_915e3 d 0 0 [xR (some (0, 0)), xI v2] σ1 (retR (fun r4 σ3 => (∃ j5 : Nat, (r4 = some (6, j5) ∧ AW G l M_X6_lookWhoIsOpen (d + 1) post (sI σ3 6 10 j5 0) kk nn 33 [some (xR (some (7, 0))), some (xI v1), some (xI v2), some (xR (some (6, j5))), some (xI 0)] []))))))))))) : AW G l M_X6_lookWhoIsOpen (d + 1) post σ kk nn 2 [some (xR (some (7, 0))), some (xI v1), some (xI v2), none, none] [] := by
  refine aw_iload_n (i := 2) d_X6_lookWhoIsOpen_2 rfl rfl ?_
  refine aw_aload_n (i := 0) d_X6_lookWhoIsOpen_3 rfl rfl ?_
  refine aw_getRv fl_RX6_12 rfl (r := some (0, 0)) (St.get hS 7 2 0 0 0 (by decide)) d_X6_lookWhoIsOpen_4 ?_
  refine aw_callV0 (as := []) mw_Jx4a65c_size_8abf5 (by decide +kernel) ml_RX6_30 rfl d_X6_lookWhoIsOpen_7 rfl (Nat.le_of_ble_eq_true rfl) (AMet.mono h (aw_toI (fun x2 σ1 h => ?_)))
  obtain ⟨hS1, h⟩ := h
  refine aw_icmp_ge (tgt := 90) d_X6_lookWhoIsOpen_10 (by decide) (fun c => ?_) (fun c => ?_)
  · have h := h.1 c
    exact aw_vret d_X6_lookWhoIsOpen_90 rfl h
  · have h := h.2 c
    refine aw_aload_n (i := 0) d_X6_lookWhoIsOpen_13 rfl rfl ?_
    refine aw_getRv fl_RX6_12 rfl (r := some (0, 0)) (St.get hS1 7 2 0 0 0 (by decide)) d_X6_lookWhoIsOpen_14 ?_
    refine aw_iload_n (i := 2) d_X6_lookWhoIsOpen_17 rfl rfl ?_
    refine aw_callV0 (as := [xI v2]) mw_Jx4a65c_get_915e3 (by decide +kernel) ml_RX6_34 rfl d_X6_lookWhoIsOpen_18 rfl (Nat.le_of_ble_eq_true rfl) (AMet.mono h (aw_toR (fun r4 σ3 h => ?_)))
    obtain ⟨j5, ej5, h⟩ := h
    rw [ej5]
    refine aw_cast (c := 6) (by decide) cl_RX6_47 d_X6_lookWhoIsOpen_21 ?_
    refine aw_astore_n (i := 3) d_X6_lookWhoIsOpen_24 rfl (by decide) ?_
    refine aw_aload_n (i := 3) d_X6_lookWhoIsOpen_25 rfl rfl ?_
    refine aw_iconst (x := 0) d_X6_lookWhoIsOpen_26 (by decide) ?_
    refine aw_putI fl_RX6_53 (by decide) (fin_no (r := (RX5, TX5, 12)) rfl rfl) d_X6_lookWhoIsOpen_27 rfl ⟨rfl, rfl⟩ ?_
    refine aw_iconst (x := 0) d_X6_lookWhoIsOpen_30 (by decide) ?_
    refine aw_istore (i := 4) d_X6_lookWhoIsOpen_31 (by decide) ?_
    exact h
set_option maxRecDepth 20000 in
theorem vc_X6_lookWhoIsOpen_33 {G : GG} {l : Launch} {d : Nat} {post : Option AVal → AS → Prop} {σ : AS} {kk nn : Nat} {v1 : Int32} {v2 : Int32} {v3 : Nat} {v4 : Int32} (h : (∃ j6 : Nat, ((gR σ 7 0 0) = some (0, j6) ∧ (AMet G l M_Jx4a65c_size_8abf5 d 0 0 [xR (some (0, j6))] σ (retI (fun x8 σ7 => (((x8 ≤ v4 → AW G l M_X6_lookWhoIsOpen (d + 1) post σ7 kk nn 2 [some (xR (some (7, 0))), some (xI v1), some (xI (v2 + 1)), none, none] [])) ∧ ((¬ x8 ≤ v4 → (∃ j9 : Nat, ((gR σ7 7 0 0) = some (0, j9) ∧ (AMet G l M_Jx4a65c_get_915e3 d 0 0 [xR (some (0, j9)), xI v4] σ7 (retR (fun r11 σ10 => (∃ j12 : Nat, (r11 = some (2, j12) ∧ (AMet G l M_X1_isOpenTo d 0 0 [xR (some (2, j12)), xR (some (6, v3)), xI v1] σ10 (retI (fun x14 σ13 => (((x14 = 0 → AW G l M_X6_lookWhoIsOpen (d + 1) post σ13 kk nn 33 [some (xR (some (7, 0))), some (xI v1), some (xI v2), some (xR (some (6, v3))), some (xI (v4 + 1))] [])) ∧ ((¬ x14 = 0 → AW G l M_X6_lookWhoIsOpen (d + 1) post (sI σ13 6 10 v3 ((gI σ13 6 10 v3) ||| (1 <<< (v4 &&& 31)))) kk nn 33 [some (xR (some (7, 0))), some (xI v1), some (xI v2), some (xR (some (6, v3))), some (xI (v4 + 1))] [])))))))))))))))))))))) : AW G l M_X6_lookWhoIsOpen (d + 1) post σ kk nn 33 [some (xR (some (7, 0))), some (xI v1), some (xI v2), some (xR (some (6, v3))), some (xI v4)] [] := by
  refine aw_iload (i := 4) d_X6_lookWhoIsOpen_33 rfl ?_
  refine aw_aload_n (i := 0) d_X6_lookWhoIsOpen_35 rfl rfl ?_
  refine aw_getR fl_RX6_18 rfl d_X6_lookWhoIsOpen_36 ?_
  obtain ⟨j6, ej6, h⟩ := h
  rw [ej6]
  refine aw_callV0 (as := []) mw_Jx4a65c_size_8abf5 (by decide +kernel) ml_RX6_30 rfl d_X6_lookWhoIsOpen_39 rfl (Nat.le_of_ble_eq_true rfl) (AMet.mono h (aw_toI (fun x8 σ7 h => ?_)))
  refine aw_icmp_ge (tgt := 84) d_X6_lookWhoIsOpen_42 (by decide) (fun c => ?_) (fun c => ?_)
  · have h := h.1 c
    refine aw_iinc (i := 2) (v := v2 + 1) d_X6_lookWhoIsOpen_84 rfl rfl (by decide) ?_
    refine aw_goto (tgt := 2) d_X6_lookWhoIsOpen_87 (by decide) ?_
    exact AW.weak h (by exact ⟨rfl, ⟨rfl, ⟨rfl, trivial⟩⟩⟩)
  · have h := h.2 c
    refine aw_aload_n (i := 0) d_X6_lookWhoIsOpen_45 rfl rfl ?_
    refine aw_getR fl_RX6_18 rfl d_X6_lookWhoIsOpen_46 ?_
    refine aw_iload (i := 4) d_X6_lookWhoIsOpen_49 rfl ?_
    obtain ⟨j9, ej9, h⟩ := h
    rw [ej9]
    refine aw_callV0 (as := [xI v4]) mw_Jx4a65c_get_915e3 (by decide +kernel) ml_RX6_34 rfl d_X6_lookWhoIsOpen_51 rfl (Nat.le_of_ble_eq_true rfl) (AMet.mono h (aw_toR (fun r11 σ10 h => ?_)))
    obtain ⟨j12, ej12, h⟩ := h
    rw [ej12]
    refine aw_cast (c := 2) (by decide) cl_RX6_38 d_X6_lookWhoIsOpen_54 ?_
    refine aw_aload_n (i := 3) d_X6_lookWhoIsOpen_57 rfl rfl ?_
    refine aw_iload_n (i := 1) d_X6_lookWhoIsOpen_58 rfl rfl ?_
    refine aw_callV0 (as := [xR (some (6, v3)), xI v1]) mw_X1_isOpenTo (by decide +kernel) ml_RX6_56 rfl d_X6_lookWhoIsOpen_59 rfl (Nat.le_of_ble_eq_true rfl) (AMet.mono h (aw_toI (fun x14 σ13 h => ?_)))
    refine aw_if_eq (tgt := 78) d_X6_lookWhoIsOpen_62 (by decide) (fun c => ?_) (fun c => ?_)
    · have h := h.1 c
      refine aw_iinc (i := 4) (v := v4 + 1) d_X6_lookWhoIsOpen_78 rfl rfl (by decide) ?_
      refine aw_goto (tgt := 33) d_X6_lookWhoIsOpen_81 (by decide) ?_
      exact h
    · have h := h.2 c
      refine aw_aload_n (i := 3) d_X6_lookWhoIsOpen_65 rfl rfl ?_
      refine aw_dupR d_X6_lookWhoIsOpen_66 ?_
      refine aw_getI fl_RX6_53 rfl d_X6_lookWhoIsOpen_67 ?_
      refine aw_iconst (x := 1) d_X6_lookWhoIsOpen_70 (by decide) ?_
      refine aw_iload (i := 4) d_X6_lookWhoIsOpen_71 rfl ?_
      refine aw_ishl d_X6_lookWhoIsOpen_73 ?_
      refine aw_ior d_X6_lookWhoIsOpen_74 ?_
      refine aw_putI fl_RX6_53 (by decide) (fin_no (r := (RX5, TX5, 12)) rfl rfl) d_X6_lookWhoIsOpen_75 rfl ⟨rfl, rfl⟩ ?_
      refine aw_iinc (i := 4) (v := v4 + 1) d_X6_lookWhoIsOpen_78 rfl rfl (by decide) ?_
      refine aw_goto (tgt := 33) d_X6_lookWhoIsOpen_81 (by decide) ?_
      exact h
set_option maxRecDepth 20000 in
theorem vc_X6_layFor {G : GG} {l : Launch} {d : Nat} {post : Option AVal → AS → Prop} {σ : AS} {kk nn : Nat} {a1 : Int32} (h : AMet G l M_X6_dismissAll d 0 0 [xR (some (7, 0))] σ (retV (fun σ1 => AMet G l M_X6_lookWhoIsOpen d 0 0 [xR (some (7, 0)), xI a1] σ1 (retV (fun σ2 => AW G l M_X6_layFor (d + 1) post σ2 kk nn 11 [some (xR (some (7, 0))), none, some (xI 0), none] []))))) : AW G l M_X6_layFor (d + 1) post σ kk nn 0 [some (xR (some (7, 0))), some (xI a1), none, none] [] := by
  refine aw_aload_n (i := 0) d_X6_layFor_0 rfl rfl ?_
  refine aw_callV0 (as := []) mw_X6_dismissAll (by decide +kernel) ml_RX6_44 rfl d_X6_layFor_1 rfl (Nat.le_of_ble_eq_true rfl) (AMet.mono h (aw_toV (fun σ1 h => ?_)))
  refine aw_aload_n (i := 0) d_X6_layFor_4 rfl rfl ?_
  refine aw_iload_n (i := 1) d_X6_layFor_5 rfl rfl ?_
  refine aw_callV0 (as := [xI a1]) mw_X6_lookWhoIsOpen (by decide +kernel) ml_RX6_60 rfl d_X6_layFor_6 rfl (Nat.le_of_ble_eq_true rfl) (AMet.mono h (aw_toV (fun σ2 h => ?_)))
  refine aw_iconst (x := 0) d_X6_layFor_9 (by decide) ?_
  refine aw_istore_n (i := 2) d_X6_layFor_10 rfl (by decide) ?_
  exact AW.weak h (by exact ⟨rfl, ⟨rfl, trivial⟩⟩)
set_option maxRecDepth 20000 in
theorem vc_X6_layFor_11 {G : GG} {l : Launch} {d : Nat} {post : Option AVal → AS → Prop} {σ : AS} {kk nn : Nat} {v2 : Int32} (h : (((60 < v2 → AMet G l M_X6_seatAllInLeast d 0 0 [xR (some (7, 0))] σ (retV (fun σ3 => post none σ3)))) ∧ ((¬ 60 < v2 → AW G l M_X6_layFor (d + 1) post σ kk nn 19 [some (xR (some (7, 0))), none, some (xI v2), some (xI 0)] [])))) : AW G l M_X6_layFor (d + 1) post σ kk nn 11 [some (xR (some (7, 0))), none, some (xI v2), none] [] := by
  refine aw_iload_n (i := 2) d_X6_layFor_11 rfl rfl ?_
  refine aw_bipush (x := 60) d_X6_layFor_12 (by decide) ?_
  refine aw_icmp_gt (tgt := 76) d_X6_layFor_14 (by decide) (fun c => ?_) (fun c => ?_)
  · have h := h.1 c
    refine aw_aload_n (i := 0) d_X6_layFor_76 rfl rfl ?_
    refine aw_callV0 (as := []) mw_X6_seatAllInLeast (by decide +kernel) ml_RX6_70 rfl d_X6_layFor_77 rfl (Nat.le_of_ble_eq_true rfl) (AMet.mono h (aw_toV (fun σ3 h => ?_)))
    exact aw_vret d_X6_layFor_80 rfl h
  · have h := h.2 c
    refine aw_iconst (x := 0) d_X6_layFor_17 (by decide) ?_
    refine aw_istore_n (i := 3) d_X6_layFor_18 rfl (by decide) ?_
    exact h
set_option maxRecDepth 20000 in
theorem vc_X6_layFor_19 {G : GG} {l : Launch} {d : Nat} {post : Option AVal → AS → Prop} {σ : AS} {kk nn : Nat} {v2 : Int32} {v3 : Int32} (hS : St σ) (h : AMet G l M_Jx4a65c_size_8abf5 d 0 0 [xR (some (0, 0))] σ (retI (fun x5 σ4 => (St σ4 ∧ (((x5 ≤ v3 → AW G l M_X6_layFor (d + 1) post σ4 kk nn 11 [some (xR (some (7, 0))), none, some (xI (v2 + 1)), none] [])) ∧ ((¬ x5 ≤ v3 → AMet G l M_Jx4a65c_get_915e3 d 0 0 [xR (some (0, 0)), xI v3] σ4 (retR (fun r7 σ6 => (St σ6 ∧ ((∃ j8 : Nat, (r7 = some (6, j8) ∧ (((¬ (gI σ6 6 7 j8) = v2 → AW G l M_X6_layFor (d + 1) post σ6 kk nn 19 [some (xR (some (7, 0))), none, some (xI v2), some (xI (v3 + 1))] [])) ∧ (((gI σ6 6 7 j8) = v2 → AMet G l M_Jx4a65c_get_915e3 d 0 0 [xR (some (0, 0)), xI v3] σ6 (retR (fun r10 σ9 => (∃ j11 : Nat, (r10 = some (6, j11) ∧ (AMet G l M_X6_seat d 0 0 [xR (some (7, 0)), xR (some (6, j11)), xI (-1)] σ9 (retV (fun σ12 => AW G l M_X6_layFor (d + 1) post σ12 kk nn 19 [some (xR (some (7, 0))), none, some (xI v2), some (xI (v3 + 1))] []))))))))))))))))))))))) : AW G l M_X6_layFor (d + 1) post σ kk nn 19 [some (xR (some (7, 0))), none, some (xI v2), some (xI v3)] [] := by
  refine aw_iload_n (i := 3) d_X6_layFor_19 rfl rfl ?_
  refine aw_aload_n (i := 0) d_X6_layFor_20 rfl rfl ?_
  refine aw_getRv fl_RX6_12 rfl (r := some (0, 0)) (St.get hS 7 2 0 0 0 (by decide)) d_X6_layFor_21 ?_
  refine aw_callV0 (as := []) mw_Jx4a65c_size_8abf5 (by decide +kernel) ml_RX6_30 rfl d_X6_layFor_24 rfl (Nat.le_of_ble_eq_true rfl) (AMet.mono h (aw_toI (fun x5 σ4 h => ?_)))
  obtain ⟨hS4, h⟩ := h
  refine aw_icmp_ge (tgt := 70) d_X6_layFor_27 (by decide) (fun c => ?_) (fun c => ?_)
  · have h := h.1 c
    refine aw_iinc (i := 2) (v := v2 + 1) d_X6_layFor_70 rfl rfl (by decide) ?_
    refine aw_goto (tgt := 11) d_X6_layFor_73 (by decide) ?_
    exact AW.weak h (by exact ⟨rfl, ⟨rfl, trivial⟩⟩)
  · have h := h.2 c
    refine aw_aload_n (i := 0) d_X6_layFor_30 rfl rfl ?_
    refine aw_getRv fl_RX6_12 rfl (r := some (0, 0)) (St.get hS4 7 2 0 0 0 (by decide)) d_X6_layFor_31 ?_
    refine aw_iload_n (i := 3) d_X6_layFor_34 rfl rfl ?_
    refine aw_callV0 (as := [xI v3]) mw_Jx4a65c_get_915e3 (by decide +kernel) ml_RX6_34 rfl d_X6_layFor_35 rfl (Nat.le_of_ble_eq_true rfl) (AMet.mono h (aw_toR (fun r7 σ6 h => ?_)))
    obtain ⟨hS6, h⟩ := h
    obtain ⟨j8, ej8, h⟩ := h
    rw [ej8]
    refine aw_cast (c := 6) (by decide) cl_RX6_47 d_X6_layFor_38 ?_
    refine aw_getI fl_RX6_63 rfl d_X6_layFor_41 ?_
    refine aw_iload_n (i := 2) d_X6_layFor_44 rfl rfl ?_
    refine aw_icmp_ne (tgt := 64) d_X6_layFor_45 (by decide) (fun c => ?_) (fun c => ?_)
    · have h := h.1 c
      refine aw_iinc (i := 3) (v := v3 + 1) d_X6_layFor_64 rfl rfl (by decide) ?_
      refine aw_goto (tgt := 19) d_X6_layFor_67 (by decide) ?_
      exact h
    · have h := h.2 c
      refine aw_aload_n (i := 0) d_X6_layFor_48 rfl rfl ?_
      refine aw_aload_n (i := 0) d_X6_layFor_49 rfl rfl ?_
      refine aw_getRv fl_RX6_12 rfl (r := some (0, 0)) (St.get hS6 7 2 0 0 0 (by decide)) d_X6_layFor_50 ?_
      refine aw_iload_n (i := 3) d_X6_layFor_53 rfl rfl ?_
      refine aw_callV0 (as := [xI v3]) mw_Jx4a65c_get_915e3 (by decide +kernel) ml_RX6_34 rfl d_X6_layFor_54 rfl (Nat.le_of_ble_eq_true rfl) (AMet.mono h (aw_toR (fun r10 σ9 h => ?_)))
      obtain ⟨j11, ej11, h⟩ := h
      rw [ej11]
      refine aw_cast (c := 6) (by decide) cl_RX6_47 d_X6_layFor_57 ?_
      refine aw_iconst (x := -1) d_X6_layFor_60 (by decide) ?_
      refine aw_callV0 (as := [xR (some (6, j11)), xI (-1)]) mw_X6_seat (by decide +kernel) ml_RX6_66 rfl d_X6_layFor_61 rfl (Nat.le_of_ble_eq_true rfl) (AMet.mono h (aw_toV (fun σ12 h => ?_)))
      refine aw_iinc (i := 3) (v := v3 + 1) d_X6_layFor_64 rfl rfl (by decide) ?_
      refine aw_goto (tgt := 19) d_X6_layFor_67 (by decide) ?_
      exact h
set_option maxRecDepth 20000 in
theorem vc_X6_seatAllInLeast {G : GG} {l : Launch} {d : Nat} {post : Option AVal → AS → Prop} {σ : AS} {kk nn : Nat}  (h : AW G l M_X6_seatAllInLeast (d + 1) post σ kk nn 2 [some (xR (some (7, 0))), some (xI 0), none] []) : AW G l M_X6_seatAllInLeast (d + 1) post σ kk nn 0 [some (xR (some (7, 0))), none, none] [] := by
  refine aw_iconst (x := 0) d_X6_seatAllInLeast_0 (by decide) ?_
  refine aw_istore_n (i := 1) d_X6_seatAllInLeast_1 rfl (by decide) ?_
  exact h
set_option maxRecDepth 20000 in
theorem vc_X6_seatAllInLeast_2 {G : GG} {l : Launch} {d : Nat} {post : Option AVal → AS → Prop} {σ : AS} {kk nn : Nat} {v1 : Int32} (hS : St σ) (h : AMet G l M_Jx4a65c_size_8abf5 d 0 0 [xR (some (0, 0))] σ (retI (fun x2 σ1 => (St σ1 ∧ (((x2 ≤ v1 → post none σ1)) ∧ ((¬ x2 ≤ v1 → AMet G l M_Jx4a65c_get_915e3 d 0 0 [xR (some (0, 0)), xI v1] σ1 (retR (fun r4 σ3 => (∃ j5 : Nat, (r4 = some (6, j5) ∧ ((((gR σ3 6 11 j5) = none → AW G l M_X6_seatAllInLeast (d + 1) post σ3 kk nn 2 [some (xR (some (7, 0))), some (xI (v1 + 1)), none] [])) ∧ ((∀ n : Nm, ((gR σ3 6 11 j5) = some n → (∃ j6 : Nat, (n = (2, j6) ∧ (AMet G l M_X5_moveTo d 0 0 [xR (some (6, j5)), xR none] σ3 (retV (fun σ7 => AMet G l M_X6_seat d 0 0 [xR (some (7, 0)), xR (some (6, j5)), xI v1] σ7 (retV (fun σ8 => AW G l M_X6_seatAllInLeast (d + 1) post σ8 kk nn 2 [some (xR (some (7, 0))), some (xI (v1 + 1)), none] [])))))))))))))))))))))) : AW G l M_X6_seatAllInLeast (d + 1) post σ kk nn 2 [some (xR (some (7, 0))), some (xI v1), none] [] := by
  refine aw_iload_n (i := 1) d_X6_seatAllInLeast_2 rfl rfl ?_
  refine aw_aload_n (i := 0) d_X6_seatAllInLeast_3 rfl rfl ?_
  refine aw_getRv fl_RX6_12 rfl (r := some (0, 0)) (St.get hS 7 2 0 0 0 (by decide)) d_X6_seatAllInLeast_4 ?_
  refine aw_callV0 (as := []) mw_Jx4a65c_size_8abf5 (by decide +kernel) ml_RX6_30 rfl d_X6_seatAllInLeast_7 rfl (Nat.le_of_ble_eq_true rfl) (AMet.mono h (aw_toI (fun x2 σ1 h => ?_)))
  obtain ⟨hS1, h⟩ := h
  refine aw_icmp_ge (tgt := 49) d_X6_seatAllInLeast_10 (by decide) (fun c => ?_) (fun c => ?_)
  · have h := h.1 c
    exact aw_vret d_X6_seatAllInLeast_49 rfl h
  · have h := h.2 c
    refine aw_aload_n (i := 0) d_X6_seatAllInLeast_13 rfl rfl ?_
    refine aw_getRv fl_RX6_12 rfl (r := some (0, 0)) (St.get hS1 7 2 0 0 0 (by decide)) d_X6_seatAllInLeast_14 ?_
    refine aw_iload_n (i := 1) d_X6_seatAllInLeast_17 rfl rfl ?_
    refine aw_callV0 (as := [xI v1]) mw_Jx4a65c_get_915e3 (by decide +kernel) ml_RX6_34 rfl d_X6_seatAllInLeast_18 rfl (Nat.le_of_ble_eq_true rfl) (AMet.mono h (aw_toR (fun r4 σ3 h => ?_)))
    obtain ⟨j5, ej5, h⟩ := h
    rw [ej5]
    refine aw_cast (c := 6) (by decide) cl_RX6_47 d_X6_seatAllInLeast_21 ?_
    refine aw_astore_n (i := 2) d_X6_seatAllInLeast_24 rfl (by decide) ?_
    refine aw_aload_n (i := 2) d_X6_seatAllInLeast_25 rfl rfl ?_
    refine aw_getR fl_RX6_73 rfl d_X6_seatAllInLeast_26 ?_
    refine aw_ifnull (tgt := 43) d_X6_seatAllInLeast_29 (by decide) (fun c => ?_) (fun n c => ?_)
    · have h := h.1 c
      try rw [c]
      refine aw_iinc (i := 1) (v := v1 + 1) d_X6_seatAllInLeast_43 rfl rfl (by decide) ?_
      refine aw_goto (tgt := 2) d_X6_seatAllInLeast_46 (by decide) ?_
      exact AW.weak h (by exact ⟨rfl, ⟨rfl, trivial⟩⟩)
    · obtain ⟨j6, e9, h⟩ := h.2 n c
      subst e9
      try rw [c]
      refine aw_aload_n (i := 2) d_X6_seatAllInLeast_32 rfl rfl ?_
      refine aw_null d_X6_seatAllInLeast_33 ?_
      refine aw_callV0 (as := [xR none]) mw_X5_moveTo (by decide +kernel) ml_RX6_49 rfl d_X6_seatAllInLeast_34 rfl (Nat.le_of_ble_eq_true rfl) (AMet.mono h (aw_toV (fun σ7 h => ?_)))
      refine aw_aload_n (i := 0) d_X6_seatAllInLeast_37 rfl rfl ?_
      refine aw_aload_n (i := 2) d_X6_seatAllInLeast_38 rfl rfl ?_
      refine aw_iload_n (i := 1) d_X6_seatAllInLeast_39 rfl rfl ?_
      refine aw_callV0 (as := [xR (some (6, j5)), xI v1]) mw_X6_seat (by decide +kernel) ml_RX6_66 rfl d_X6_seatAllInLeast_40 rfl (Nat.le_of_ble_eq_true rfl) (AMet.mono h (aw_toV (fun σ8 h => ?_)))
      refine aw_iinc (i := 1) (v := v1 + 1) d_X6_seatAllInLeast_43 rfl rfl (by decide) ?_
      refine aw_goto (tgt := 2) d_X6_seatAllInLeast_46 (by decide) ?_
      exact AW.weak h (by exact ⟨rfl, ⟨rfl, trivial⟩⟩)
set_option maxRecDepth 20000 in
theorem vc_X6_seat {G : GG} {l : Launch} {d : Nat} {post : Option AVal → AS → Prop} {σ : AS} {kk nn : Nat} {p1 : Nat} {a2 : Int32} (h : AMet G l M_X6_seatElsewhere d 0 0 [xR (some (7, 0)), xR (some (6, p1)), xI a2, xI 0] (sI σ 7 3 0 0) (retI (fun x2 σ1 => post none σ1))) : AW G l M_X6_seat (d + 1) post σ kk nn 0 [some (xR (some (7, 0))), some (xR (some (6, p1))), some (xI a2)] [] := by
  refine aw_aload_n (i := 0) d_X6_seat_0 rfl rfl ?_
  refine aw_iconst (x := 0) d_X6_seat_1 (by decide) ?_
  refine aw_putI fl_RX6_77 (by decide) (fin_no (r := (RX6, TX6, 4)) rfl rfl) d_X6_seat_2 rfl ⟨rfl, rfl⟩ ?_
  refine aw_aload_n (i := 0) d_X6_seat_5 rfl rfl ?_
  refine aw_aload_n (i := 1) d_X6_seat_6 rfl rfl ?_
  refine aw_iload_n (i := 2) d_X6_seat_7 rfl rfl ?_
  refine aw_iconst (x := 0) d_X6_seat_8 (by decide) ?_
  refine aw_callV0 (as := [xR (some (6, p1)), xI a2, xI 0]) mw_X6_seatElsewhere (by decide +kernel) ml_RX6_80 rfl d_X6_seat_9 rfl (Nat.le_of_ble_eq_true rfl) (AMet.mono h (aw_toI (fun x2 σ1 h => ?_)))
  refine aw_popI d_X6_seat_12 ?_
  exact aw_vret d_X6_seat_13 rfl h
set_option maxRecDepth 20000 in
theorem vc_X6_seatElsewhere {G : GG} {l : Launch} {d : Nat} {post : Option AVal → AS → Prop} {σ : AS} {kk nn : Nat} {p1 : Nat} {a2 : Int32} {a3 : Int32} (h : AW G l M_X6_seatElsewhere (d + 1) post σ kk nn 3 [some (xR (some (7, 0))), some (xR (some (6, p1))), some (xI a2), some (xI a3), some (xI 0), none] []) : AW G l M_X6_seatElsewhere (d + 1) post σ kk nn 0 [some (xR (some (7, 0))), some (xR (some (6, p1))), some (xI a2), some (xI a3), none, none] [] := by
  refine aw_iconst (x := 0) d_X6_seatElsewhere_0 (by decide) ?_
  refine aw_istore (i := 4) d_X6_seatElsewhere_1 (by decide) ?_
  exact h
set_option maxRecDepth 20000 in
theorem vc_X6_seatElsewhere_3 {G : GG} {l : Launch} {d : Nat} {post : Option AVal → AS → Prop} {σ : AS} {kk nn : Nat} {v1 : Nat} {v2 : Int32} {v3 : Int32} {v4 : Int32} (h : (∃ j1 : Nat, ((gR σ 7 0 0) = some (0, j1) ∧ (AMet G l M_Jx4a65c_size_8abf5 d 0 0 [xR (some (0, j1))] σ (retI (fun x3 σ2 => (((x3 ≤ v4 → post (some (xI 0)) σ2)) ∧ ((¬ x3 ≤ v4 → (∃ j4 : Nat, ((gR σ2 7 0 0) = some (0, j4) ∧ (AMet G l M_Jx4a65c_get_915e3 d 0 0 [xR (some (0, j4)), xI v4] σ2 (retR (fun r6 σ5 => (∃ j7 : Nat, (r6 = some (2, j7) ∧ (AMet G l M_X5_canBeIn d 0 0 [xR (some (6, v1)), xR (some (2, j7))] σ5 (retI (fun x9 σ8 => (((x9 = 0 → AW G l M_X6_seatElsewhere (d + 1) post σ8 kk nn 3 [some (xR (some (7, 0))), some (xR (some (6, v1))), some (xI v2), some (xI v3), some (xI (v4 + 1)), none] [])) ∧ ((¬ x9 = 0 → AMet G l M_X6_makeRoom d 0 0 [xR (some (7, 0)), xR (some (2, j7)), xI v2, xI (v3 + 1)] σ8 (retI (fun x11 σ10 => (((x11 = 0 → AW G l M_X6_seatElsewhere (d + 1) post σ10 kk nn 3 [some (xR (some (7, 0))), some (xR (some (6, v1))), some (xI v2), some (xI v3), some (xI (v4 + 1)), none] [])) ∧ ((¬ x11 = 0 → AMet G l M_X5_moveTo d 0 0 [xR (some (6, v1)), xR (some (2, j7))] σ10 (retV (fun σ12 => post (some (xI 1)) σ12))))))))))))))))))))))))))))) : AW G l M_X6_seatElsewhere (d + 1) post σ kk nn 3 [some (xR (some (7, 0))), some (xR (some (6, v1))), some (xI v2), some (xI v3), some (xI v4), none] [] := by
  refine aw_iload (i := 4) d_X6_seatElsewhere_3 rfl ?_
  refine aw_aload_n (i := 0) d_X6_seatElsewhere_5 rfl rfl ?_
  refine aw_getR fl_RX6_18 rfl d_X6_seatElsewhere_6 ?_
  obtain ⟨j1, ej1, h⟩ := h
  rw [ej1]
  refine aw_callV0 (as := []) mw_Jx4a65c_size_8abf5 (by decide +kernel) ml_RX6_30 rfl d_X6_seatElsewhere_9 rfl (Nat.le_of_ble_eq_true rfl) (AMet.mono h (aw_toI (fun x3 σ2 h => ?_)))
  refine aw_icmp_ge (tgt := 65) d_X6_seatElsewhere_12 (by decide) (fun c => ?_) (fun c => ?_)
  · have h := h.1 c
    refine aw_iconst (x := 0) d_X6_seatElsewhere_65 (by decide) ?_
    exact aw_ret d_X6_seatElsewhere_66 rfl (by decide) h
  · have h := h.2 c
    refine aw_aload_n (i := 0) d_X6_seatElsewhere_15 rfl rfl ?_
    refine aw_getR fl_RX6_18 rfl d_X6_seatElsewhere_16 ?_
    refine aw_iload (i := 4) d_X6_seatElsewhere_19 rfl ?_
    obtain ⟨j4, ej4, h⟩ := h
    rw [ej4]
    refine aw_callV0 (as := [xI v4]) mw_Jx4a65c_get_915e3 (by decide +kernel) ml_RX6_34 rfl d_X6_seatElsewhere_21 rfl (Nat.le_of_ble_eq_true rfl) (AMet.mono h (aw_toR (fun r6 σ5 h => ?_)))
    obtain ⟨j7, ej7, h⟩ := h
    rw [ej7]
    refine aw_cast (c := 2) (by decide) cl_RX6_38 d_X6_seatElsewhere_24 ?_
    refine aw_astore (i := 5) d_X6_seatElsewhere_27 (by decide) ?_
    refine aw_aload_n (i := 1) d_X6_seatElsewhere_29 rfl rfl ?_
    refine aw_aload (i := 5) d_X6_seatElsewhere_30 rfl ?_
    refine aw_callV0 (as := [xR (some (2, j7))]) mw_X5_canBeIn (by decide +kernel) ml_RX6_84 rfl d_X6_seatElsewhere_32 rfl (Nat.le_of_ble_eq_true rfl) (AMet.mono h (aw_toI (fun x9 σ8 h => ?_)))
    refine aw_if_eq (tgt := 59) d_X6_seatElsewhere_35 (by decide) (fun c => ?_) (fun c => ?_)
    · have h := h.1 c
      refine aw_iinc (i := 4) (v := v4 + 1) d_X6_seatElsewhere_59 rfl rfl (by decide) ?_
      refine aw_goto (tgt := 3) d_X6_seatElsewhere_62 (by decide) ?_
      exact AW.weak h (by exact ⟨rfl, ⟨rfl, ⟨rfl, ⟨rfl, ⟨rfl, trivial⟩⟩⟩⟩⟩)
    · have h := h.2 c
      refine aw_aload_n (i := 0) d_X6_seatElsewhere_38 rfl rfl ?_
      refine aw_aload (i := 5) d_X6_seatElsewhere_39 rfl ?_
      refine aw_iload_n (i := 2) d_X6_seatElsewhere_41 rfl rfl ?_
      refine aw_iload_n (i := 3) d_X6_seatElsewhere_42 rfl rfl ?_
      refine aw_iconst (x := 1) d_X6_seatElsewhere_43 (by decide) ?_
      refine aw_iadd d_X6_seatElsewhere_44 ?_
      refine aw_callV0 (as := [xR (some (2, j7)), xI v2, xI (v3 + 1)]) mw_X6_makeRoom (by decide +kernel) ml_RX6_88 rfl d_X6_seatElsewhere_45 rfl (Nat.le_of_ble_eq_true rfl) (AMet.mono h (aw_toI (fun x11 σ10 h => ?_)))
      refine aw_if_eq (tgt := 59) d_X6_seatElsewhere_48 (by decide) (fun c => ?_) (fun c => ?_)
      · have h := h.1 c
        refine aw_iinc (i := 4) (v := v4 + 1) d_X6_seatElsewhere_59 rfl rfl (by decide) ?_
        refine aw_goto (tgt := 3) d_X6_seatElsewhere_62 (by decide) ?_
        exact AW.weak h (by exact ⟨rfl, ⟨rfl, ⟨rfl, ⟨rfl, ⟨rfl, trivial⟩⟩⟩⟩⟩)
      · have h := h.2 c
        refine aw_aload_n (i := 1) d_X6_seatElsewhere_51 rfl rfl ?_
        refine aw_aload (i := 5) d_X6_seatElsewhere_52 rfl ?_
        refine aw_callV0 (as := [xR (some (2, j7))]) mw_X5_moveTo (by decide +kernel) ml_RX6_49 rfl d_X6_seatElsewhere_54 rfl (Nat.le_of_ble_eq_true rfl) (AMet.mono h (aw_toV (fun σ12 h => ?_)))
        refine aw_iconst (x := 1) d_X6_seatElsewhere_57 (by decide) ?_
        exact aw_ret d_X6_seatElsewhere_58 rfl (by decide) h
set_option maxRecDepth 20000 in
theorem vc_X6_makeRoom {G : GG} {l : Launch} {d : Nat} {post : Option AVal → AS → Prop} {σ : AS} {kk nn : Nat} {p1 : Nat} {a2 : Int32} {a3 : Int32} (h : ((((gI σ 2 4 p1) ≤ (gI σ 2 6 p1) → ((((((gI σ 7 3 0) >>> ((gI σ 2 0 p1) &&& 31)) &&& 1) = 1 → post (some (xI 0)) σ)) ∧ ((¬ (((gI σ 7 3 0) >>> ((gI σ 2 0 p1) &&& 31)) &&& 1) = 1 → (((a3 ≤ 6 → (((0 ≤ a2 → AW G l M_X6_makeRoom (d + 1) post (sI σ 7 3 0 ((gI σ 7 3 0) ||| (1 <<< ((gI σ 2 0 p1) &&& 31)))) kk nn 64 [some (xR (some (7, 0))), some (xR (some (2, p1))), some (xI a2), some (xI a3), some (xI (a2 + 1)), none] [])) ∧ ((¬ 0 ≤ a2 → AW G l M_X6_makeRoom (d + 1) post (sI σ 7 3 0 ((gI σ 7 3 0) ||| (1 <<< ((gI σ 2 0 p1) &&& 31)))) kk nn 64 [some (xR (some (7, 0))), some (xR (some (2, p1))), some (xI a2), some (xI a3), some (xI 0), none] []))))) ∧ ((¬ a3 ≤ 6 → post (some (xI 0)) σ)))))))) ∧ ((¬ (gI σ 2 4 p1) ≤ (gI σ 2 6 p1) → post (some (xI 1)) σ)))) : AW G l M_X6_makeRoom (d + 1) post σ kk nn 0 [some (xR (some (7, 0))), some (xR (some (2, p1))), some (xI a2), some (xI a3), none, none] [] := by
  refine aw_aload_n (i := 1) d_X6_makeRoom_0 rfl rfl ?_
  refine aw_getI fl_RX6_40 rfl d_X6_makeRoom_1 ?_
  refine aw_aload_n (i := 1) d_X6_makeRoom_4 rfl rfl ?_
  refine aw_getI fl_RX6_92 rfl d_X6_makeRoom_5 ?_
  refine aw_icmp_ge (tgt := 13) d_X6_makeRoom_8 (by decide) (fun c => ?_) (fun c => ?_)
  · have h := h.1 c
    refine aw_aload_n (i := 0) d_X6_makeRoom_13 rfl rfl ?_
    refine aw_getI fl_RX6_77 rfl d_X6_makeRoom_14 ?_
    refine aw_aload_n (i := 1) d_X6_makeRoom_17 rfl rfl ?_
    refine aw_getI fl_RX6_95 rfl d_X6_makeRoom_18 ?_
    refine aw_ishr d_X6_makeRoom_21 ?_
    refine aw_iconst (x := 1) d_X6_makeRoom_22 (by decide) ?_
    refine aw_iand d_X6_makeRoom_23 ?_
    refine aw_iconst (x := 1) d_X6_makeRoom_24 (by decide) ?_
    refine aw_icmp_eq (tgt := 34) d_X6_makeRoom_25 (by decide) (fun c => ?_) (fun c => ?_)
    · have h := h.1 c
      refine aw_iconst (x := 0) d_X6_makeRoom_34 (by decide) ?_
      exact aw_ret d_X6_makeRoom_35 rfl (by decide) h
    · have h := h.2 c
      refine aw_iload_n (i := 3) d_X6_makeRoom_28 rfl rfl ?_
      refine aw_bipush (x := 6) d_X6_makeRoom_29 (by decide) ?_
      refine aw_icmp_le (tgt := 36) d_X6_makeRoom_31 (by decide) (fun c => ?_) (fun c => ?_)
      · have h := h.1 c
        refine aw_aload_n (i := 0) d_X6_makeRoom_36 rfl rfl ?_
        refine aw_dupR d_X6_makeRoom_37 ?_
        refine aw_getI fl_RX6_77 rfl d_X6_makeRoom_38 ?_
        refine aw_iconst (x := 1) d_X6_makeRoom_41 (by decide) ?_
        refine aw_aload_n (i := 1) d_X6_makeRoom_42 rfl rfl ?_
        refine aw_getI fl_RX6_95 rfl d_X6_makeRoom_43 ?_
        refine aw_ishl d_X6_makeRoom_46 ?_
        refine aw_ior d_X6_makeRoom_47 ?_
        refine aw_putI fl_RX6_77 (by decide) (fin_no (r := (RX6, TX6, 4)) rfl rfl) d_X6_makeRoom_48 rfl ⟨rfl, rfl⟩ ?_
        refine aw_iload_n (i := 2) d_X6_makeRoom_51 rfl rfl ?_
        refine aw_if_ge (tgt := 59) d_X6_makeRoom_52 (by decide) (fun c => ?_) (fun c => ?_)
        · have h := h.1 c
          refine aw_iload_n (i := 2) d_X6_makeRoom_59 rfl rfl ?_
          refine aw_iconst (x := 1) d_X6_makeRoom_60 (by decide) ?_
          refine aw_iadd d_X6_makeRoom_61 ?_
          refine aw_istore (i := 4) d_X6_makeRoom_62 (by decide) ?_
          exact h
        · have h := h.2 c
          refine aw_iconst (x := 0) d_X6_makeRoom_55 (by decide) ?_
          refine aw_goto (tgt := 62) d_X6_makeRoom_56 (by decide) ?_
          refine aw_istore (i := 4) d_X6_makeRoom_62 (by decide) ?_
          exact h
      · have h := h.2 c
        refine aw_iconst (x := 0) d_X6_makeRoom_34 (by decide) ?_
        exact aw_ret d_X6_makeRoom_35 rfl (by decide) h
  · have h := h.2 c
    refine aw_iconst (x := 1) d_X6_makeRoom_11 (by decide) ?_
    exact aw_ret d_X6_makeRoom_12 rfl (by decide) h
set_option maxRecDepth 20000 in
theorem vc_X6_makeRoom_64 {G : GG} {l : Launch} {d : Nat} {post : Option AVal → AS → Prop} {σ : AS} {kk nn : Nat} {v1 : Nat} {v2 : Int32} {v3 : Int32} {v4 : Int32} (hS : St σ) (h : AMet G l M_Jx4a65c_size_8abf5 d 0 0 [xR (some (0, 0))] σ (retI (fun x2 σ1 => (St σ1 ∧ (((x2 ≤ v4 → post (some (xI 0)) σ1)) ∧ ((¬ x2 ≤ v4 → AMet G l M_Jx4a65c_get_915e3 d 0 0 [xR (some (0, 0)), xI v4] σ1 (retR (fun r4 σ3 => (∃ j5 : Nat, (r4 = some (6, j5) ∧ (∀ n : Nm, gR σ3 6 11 j5 = some n → n.1 ≠ 31) ∧ (((¬ (gR σ3 6 11 j5) = (some (2, v1)) → AW G l M_X6_makeRoom (d + 1) post σ3 kk nn 64 [some (xR (some (7, 0))), some (xR (some (2, v1))), some (xI v2), some (xI v3), some (xI (v4 + 1)), none] [])) ∧ (((gR σ3 6 11 j5) = (some (2, v1)) → AMet G l M_X6_seatElsewhere d 0 0 [xR (some (7, 0)), xR (some (6, j5)), xI v2, xI v3] σ3 (retI (fun x7 σ6 => (((x7 = 0 → AW G l M_X6_makeRoom (d + 1) post σ6 kk nn 64 [some (xR (some (7, 0))), some (xR (some (2, v1))), some (xI v2), some (xI v3), some (xI (v4 + 1)), none] [])) ∧ ((¬ x7 = 0 → post (some (xI 1)) σ6))))))))))))))))))) : AW G l M_X6_makeRoom (d + 1) post σ kk nn 64 [some (xR (some (7, 0))), some (xR (some (2, v1))), some (xI v2), some (xI v3), some (xI v4), none] [] := by
  refine aw_iload (i := 4) d_X6_makeRoom_64 rfl ?_
  refine aw_aload_n (i := 0) d_X6_makeRoom_66 rfl rfl ?_
  refine aw_getRv fl_RX6_12 rfl (r := some (0, 0)) (St.get hS 7 2 0 0 0 (by decide)) d_X6_makeRoom_67 ?_
  refine aw_callV0 (as := []) mw_Jx4a65c_size_8abf5 (by decide +kernel) ml_RX6_30 rfl d_X6_makeRoom_70 rfl (Nat.le_of_ble_eq_true rfl) (AMet.mono h (aw_toI (fun x2 σ1 h => ?_)))
  obtain ⟨hS1, h⟩ := h
  refine aw_icmp_ge (tgt := 118) d_X6_makeRoom_73 (by decide) (fun c => ?_) (fun c => ?_)
  · have h := h.1 c
    refine aw_iconst (x := 0) d_X6_makeRoom_118 (by decide) ?_
    exact aw_ret d_X6_makeRoom_119 rfl (by decide) h
  · have h := h.2 c
    refine aw_aload_n (i := 0) d_X6_makeRoom_76 rfl rfl ?_
    refine aw_getRv fl_RX6_12 rfl (r := some (0, 0)) (St.get hS1 7 2 0 0 0 (by decide)) d_X6_makeRoom_77 ?_
    refine aw_iload (i := 4) d_X6_makeRoom_80 rfl ?_
    refine aw_callV0 (as := [xI v4]) mw_Jx4a65c_get_915e3 (by decide +kernel) ml_RX6_34 rfl d_X6_makeRoom_82 rfl (Nat.le_of_ble_eq_true rfl) (AMet.mono h (aw_toR (fun r4 σ3 h => ?_)))
    obtain ⟨j5, ej5, h31, h⟩ := h
    rw [ej5]
    refine aw_cast (c := 6) (by decide) cl_RX6_47 d_X6_makeRoom_85 ?_
    refine aw_astore (i := 5) d_X6_makeRoom_88 (by decide) ?_
    refine aw_aload (i := 5) d_X6_makeRoom_90 rfl ?_
    refine aw_getR fl_RX6_73 rfl d_X6_makeRoom_92 ?_
    refine aw_aload_n (i := 1) d_X6_makeRoom_95 rfl rfl ?_
    refine aw_acmp_ne (tgt := 112) d_X6_makeRoom_96 (by decide) (fun n m e1 e2 => by cases e2; exact Or.inr (Or.inl ⟨by simp [fixd], h31 n e1⟩)) (fun c => ?_) (fun c => ?_)
    · have h := h.1 c
      refine aw_iinc (i := 4) (v := v4 + 1) d_X6_makeRoom_112 rfl rfl (by decide) ?_
      refine aw_goto (tgt := 64) d_X6_makeRoom_115 (by decide) ?_
      exact AW.weak h (by exact ⟨rfl, ⟨rfl, ⟨rfl, ⟨rfl, ⟨rfl, trivial⟩⟩⟩⟩⟩)
    · have h := h.2 c
      refine aw_aload_n (i := 0) d_X6_makeRoom_99 rfl rfl ?_
      refine aw_aload (i := 5) d_X6_makeRoom_100 rfl ?_
      refine aw_iload_n (i := 2) d_X6_makeRoom_102 rfl rfl ?_
      refine aw_iload_n (i := 3) d_X6_makeRoom_103 rfl rfl ?_
      refine aw_callV0 (as := [xR (some (6, j5)), xI v2, xI v3]) mw_X6_seatElsewhere (by decide +kernel) ml_RX6_80 rfl d_X6_makeRoom_104 rfl (Nat.le_of_ble_eq_true rfl) (AMet.mono h (aw_toI (fun x7 σ6 h => ?_)))
      refine aw_if_eq (tgt := 112) d_X6_makeRoom_107 (by decide) (fun c => ?_) (fun c => ?_)
      · have h := h.1 c
        refine aw_iinc (i := 4) (v := v4 + 1) d_X6_makeRoom_112 rfl rfl (by decide) ?_
        refine aw_goto (tgt := 64) d_X6_makeRoom_115 (by decide) ?_
        exact AW.weak h (by exact ⟨rfl, ⟨rfl, ⟨rfl, ⟨rfl, ⟨rfl, trivial⟩⟩⟩⟩⟩)
      · have h := h.2 c
        refine aw_iconst (x := 1) d_X6_makeRoom_110 (by decide) ?_
        exact aw_ret d_X6_makeRoom_111 rfl (by decide) h
set_option maxRecDepth 20000 in
theorem vc_X6_mend {G : GG} {l : Launch} {d : Nat} {post : Option AVal → AS → Prop} {σ : AS} {kk nn : Nat} {p1 : Nat} {a2 : Int32} (h : AMet G l M_X6_lookWhoIsOpen d 0 0 [xR (some (7, 0)), xI a2] σ (retV (fun σ1 => AMet G l M_X6_measureRows d 0 0 [xR (some (7, 0))] σ1 (retV (fun σ2 => (St σ2 ∧ AW G l M_X6_mend (d + 1) post (sI σ2 8 1 4 0) kk nn 25 [some (xR (some (7, 0))), none, none, some (xR (some (2, p1))), some (xI (gI σ2 2 8 p1)), none, none] [])))))) : AW G l M_X6_mend (d + 1) post σ kk nn 0 [some (xR (some (7, 0))), some (xR (some (2, p1))), some (xI a2), none, none, none, none] [] := by
  refine aw_aload_n (i := 0) d_X6_mend_0 rfl rfl ?_
  refine aw_iload_n (i := 2) d_X6_mend_1 rfl rfl ?_
  refine aw_callV0 (as := [xI a2]) mw_X6_lookWhoIsOpen (by decide +kernel) ml_RX6_60 rfl d_X6_mend_2 rfl (Nat.le_of_ble_eq_true rfl) (AMet.mono h (aw_toV (fun σ1 h => ?_)))
  refine aw_aload_n (i := 0) d_X6_mend_5 rfl rfl ?_
  refine aw_callV0 (as := []) mw_X6_measureRows (by decide +kernel) ml_RX6_98 rfl d_X6_mend_6 rfl (Nat.le_of_ble_eq_true rfl) (AMet.mono h (aw_toV (fun σ2 h => ?_)))
  obtain ⟨hS2, h⟩ := h
  refine aw_aload_n (i := 0) d_X6_mend_9 rfl rfl ?_
  refine aw_getRv fl_RX6_26 rfl (r := some (8, 4)) (St.get hS2 7 1 0 8 4 (by decide)) d_X6_mend_10 ?_
  refine aw_iconst (x := 0) d_X6_mend_13 (by decide) ?_
  refine aw_putI fl_RX6_101 (by decide) (fin_no (r := (RX7, TX7, 2)) rfl rfl) d_X6_mend_14 rfl ⟨rfl, rfl⟩ ?_
  refine aw_aload_n (i := 1) d_X6_mend_17 rfl rfl ?_
  refine aw_astore_n (i := 3) d_X6_mend_18 rfl (by decide) ?_
  refine aw_aload_n (i := 1) d_X6_mend_19 rfl rfl ?_
  refine aw_getIv fl_RX6_103 rfl (x := gI σ2 2 8 p1) rfl d_X6_mend_20 ?_
  refine aw_istore (i := 4) d_X6_mend_23 (by decide) ?_
  exact AW.weak h (by exact ⟨rfl, ⟨rfl, ⟨rfl, trivial⟩⟩⟩)
set_option maxRecDepth 20000 in
theorem vc_X6_mend_25 {G : GG} {l : Launch} {d : Nat} {post : Option AVal → AS → Prop} {σ : AS} {kk nn : Nat} {v3 : Option Nm} {v4 : Int32} (h : (((v4 ≤ 0 → post none σ)) ∧ ((¬ v4 ≤ 0 → (((v3 = none → post none σ)) ∧ ((∀ n : Nm, (v3 = some n → (∃ j3 : Nat, (n = (2, j3) ∧ (AMet G l M_X6_firstOfRow d 0 0 [xR (some (7, 0)), xR (some (2, j3)), xI v4] σ (retR (fun r5 σ4 => (((r5 = none → post none σ4)) ∧ ((∀ n : Nm, (r5 = some n → (∃ j6 : Nat, (n = (6, j6) ∧ (AMet G l M_X5_moveTo d 0 0 [xR (some (6, j6)), xR (some (2, j3))] σ4 (retV (fun σ7 => (St σ7 ∧ (AMet G l M_X7_add d 0 0 [xR (some (8, 4)), xI (gI σ7 6 0 j6)] σ7 (retV (fun σ8 => AW G l M_X6_mend (d + 1) post σ8 kk nn 25 [some (xR (some (7, 0))), none, none, some (xR (gR σ4 6 11 j6)), some (xI (v4 + (-1))), none, none] [])))))))))))))))))))))))))) : AW G l M_X6_mend (d + 1) post σ kk nn 25 [some (xR (some (7, 0))), none, none, some (xR v3), some (xI v4), none, none] [] := by
  refine aw_iload (i := 4) d_X6_mend_25 rfl ?_
  refine aw_if_le (tgt := 83) d_X6_mend_27 (by decide) (fun c => ?_) (fun c => ?_)
  · have h := h.1 c
    exact aw_vret d_X6_mend_83 rfl h
  · have h := h.2 c
    refine aw_aload_n (i := 3) d_X6_mend_30 rfl rfl ?_
    refine aw_ifnull (tgt := 83) d_X6_mend_31 (by decide) (fun c => ?_) (fun n c => ?_)
    · have h := h.1 c
      try rw [c]
      exact aw_vret d_X6_mend_83 rfl h
    · obtain ⟨j3, e9, h⟩ := h.2 n c
      subst e9
      try rw [c]
      refine aw_aload_n (i := 0) d_X6_mend_34 rfl rfl ?_
      refine aw_aload_n (i := 3) d_X6_mend_35 rfl rfl ?_
      refine aw_iload (i := 4) d_X6_mend_36 rfl ?_
      refine aw_callV0 (as := [xR (some (2, j3)), xI v4]) mw_X6_firstOfRow (by decide +kernel) ml_RX6_106 rfl d_X6_mend_38 rfl (Nat.le_of_ble_eq_true rfl) (AMet.mono h (aw_toR (fun r5 σ4 h => ?_)))
      refine aw_astore (i := 5) d_X6_mend_41 (by decide) ?_
      refine aw_aload (i := 5) d_X6_mend_43 rfl ?_
      refine aw_ifnonnull (tgt := 49) d_X6_mend_45 (by decide) (fun n c => ?_) (fun c => ?_)
      · obtain ⟨j6, e9, h⟩ := h.2 n c
        subst e9
        try rw [c]
        refine aw_aload (i := 5) d_X6_mend_49 rfl ?_
        refine aw_getR fl_RX6_73 rfl d_X6_mend_51 ?_
        refine aw_astore (i := 6) d_X6_mend_54 (by decide) ?_
        refine aw_aload (i := 5) d_X6_mend_56 rfl ?_
        refine aw_aload_n (i := 3) d_X6_mend_58 rfl rfl ?_
        refine aw_callV0 (as := [xR (some (2, j3))]) mw_X5_moveTo (by decide +kernel) ml_RX6_49 rfl d_X6_mend_59 rfl (Nat.le_of_ble_eq_true rfl) (AMet.mono h (aw_toV (fun σ7 h => ?_)))
        obtain ⟨hS7, h⟩ := h
        refine aw_aload_n (i := 0) d_X6_mend_62 rfl rfl ?_
        refine aw_getRv fl_RX6_26 rfl (r := some (8, 4)) (St.get hS7 7 1 0 8 4 (by decide)) d_X6_mend_63 ?_
        refine aw_aload (i := 5) d_X6_mend_66 rfl ?_
        refine aw_getI fl_RX6_110 rfl d_X6_mend_68 ?_
        refine aw_callV0 (as := [xI (gI σ7 6 0 j6)]) mw_X7_add (by decide +kernel) ml_RX6_111 rfl d_X6_mend_71 rfl (Nat.le_of_ble_eq_true rfl) (AMet.mono h (aw_toV (fun σ8 h => ?_)))
        refine aw_aload (i := 6) d_X6_mend_74 rfl ?_
        refine aw_astore_n (i := 3) d_X6_mend_76 rfl (by decide) ?_
        refine aw_iinc (i := 4) (v := v4 + (-1)) d_X6_mend_77 rfl rfl (by decide) ?_
        refine aw_goto (tgt := 25) d_X6_mend_80 (by decide) ?_
        exact AW.weak h (by exact ⟨rfl, ⟨rfl, ⟨rfl, trivial⟩⟩⟩)
      · have h := h.1 c
        try rw [c]
        exact aw_vret d_X6_mend_48 rfl h
set_option maxRecDepth 20000 in
theorem vc_X6_measureRows {G : GG} {l : Launch} {d : Nat} {post : Option AVal → AS → Prop} {σ : AS} {kk nn : Nat}  (h : AW G l M_X6_measureRows (d + 1) post σ kk nn 2 [some (xR (some (7, 0))), some (xI 0), none, none] []) : AW G l M_X6_measureRows (d + 1) post σ kk nn 0 [some (xR (some (7, 0))), none, none, none] [] := by
  refine aw_iconst (x := 0) d_X6_measureRows_0 (by decide) ?_
  refine aw_istore_n (i := 1) d_X6_measureRows_1 rfl (by decide) ?_
  exact h
set_option maxRecDepth 20000 in
theorem vc_X6_measureRows_2 {G : GG} {l : Launch} {d : Nat} {post : Option AVal → AS → Prop} {σ : AS} {kk nn : Nat} {v1 : Int32} (h : (∃ j1 : Nat, ((gR σ 7 0 0) = some (0, j1) ∧ (AMet G l M_Jx4a65c_size_8abf5 d 0 0 [xR (some (0, j1))] σ (retI (fun x3 σ2 => (((x3 ≤ v1 → AW G l M_X6_measureRows (d + 1) post σ2 kk nn 36 [some (xR (some (7, 0))), some (xI 1), none, none] [])) ∧ ((¬ x3 ≤ v1 → (∃ j4 : Nat, ((gR σ2 7 0 0) = some (0, j4) ∧ (AMet G l M_Jx4a65c_get_915e3 d 0 0 [xR (some (0, j4)), xI v1] σ2 (retR (fun r6 σ5 => (∃ j7 : Nat, (r6 = some (2, j7) ∧ AW G l M_X6_measureRows (d + 1) post (sI σ5 2 8 j7 (-1)) kk nn 2 [some (xR (some (7, 0))), some (xI (v1 + 1)), none, none] [])))))))))))))))) : AW G l M_X6_measureRows (d + 1) post σ kk nn 2 [some (xR (some (7, 0))), some (xI v1), none, none] [] := by
  refine aw_iload_n (i := 1) d_X6_measureRows_2 rfl rfl ?_
  refine aw_aload_n (i := 0) d_X6_measureRows_3 rfl rfl ?_
  refine aw_getR fl_RX6_18 rfl d_X6_measureRows_4 ?_
  obtain ⟨j1, ej1, h⟩ := h
  rw [ej1]
  refine aw_callV0 (as := []) mw_Jx4a65c_size_8abf5 (by decide +kernel) ml_RX6_30 rfl d_X6_measureRows_7 rfl (Nat.le_of_ble_eq_true rfl) (AMet.mono h (aw_toI (fun x3 σ2 h => ?_)))
  refine aw_icmp_ge (tgt := 34) d_X6_measureRows_10 (by decide) (fun c => ?_) (fun c => ?_)
  · have h := h.1 c
    refine aw_iconst (x := 1) d_X6_measureRows_34 (by decide) ?_
    refine aw_istore_n (i := 1) d_X6_measureRows_35 rfl (by decide) ?_
    exact h
  · have h := h.2 c
    refine aw_aload_n (i := 0) d_X6_measureRows_13 rfl rfl ?_
    refine aw_getR fl_RX6_18 rfl d_X6_measureRows_14 ?_
    refine aw_iload_n (i := 1) d_X6_measureRows_17 rfl rfl ?_
    obtain ⟨j4, ej4, h⟩ := h
    rw [ej4]
    refine aw_callV0 (as := [xI v1]) mw_Jx4a65c_get_915e3 (by decide +kernel) ml_RX6_34 rfl d_X6_measureRows_18 rfl (Nat.le_of_ble_eq_true rfl) (AMet.mono h (aw_toR (fun r6 σ5 h => ?_)))
    obtain ⟨j7, ej7, h⟩ := h
    rw [ej7]
    refine aw_cast (c := 2) (by decide) cl_RX6_38 d_X6_measureRows_21 ?_
    refine aw_iconst (x := -1) d_X6_measureRows_24 (by decide) ?_
    refine aw_putI fl_RX6_103 (by decide) (fin_no (r := (RX1, TX1, 9)) rfl rfl) d_X6_measureRows_25 rfl ⟨rfl, rfl⟩ ?_
    refine aw_iinc (i := 1) (v := v1 + 1) d_X6_measureRows_28 rfl rfl (by decide) ?_
    refine aw_goto (tgt := 2) d_X6_measureRows_31 (by decide) ?_
    exact h
set_option maxRecDepth 20000 in
theorem vc_X6_measureRows_36 {G : GG} {l : Launch} {d : Nat} {post : Option AVal → AS → Prop} {σ : AS} {kk nn : Nat} {v1 : Int32} (h : (∃ j8 : Nat, ((gR σ 7 0 0) = some (0, j8) ∧ (AMet G l M_Jx4a65c_size_8abf5 d 0 0 [xR (some (0, j8))] σ (retI (fun x10 σ9 => (((x10 < v1 → post none σ9)) ∧ ((¬ x10 < v1 → AW G l M_X6_measureRows (d + 1) post σ9 kk nn 49 [some (xR (some (7, 0))), some (xI v1), some (xI 0), none] []))))))))) : AW G l M_X6_measureRows (d + 1) post σ kk nn 36 [some (xR (some (7, 0))), some (xI v1), none, none] [] := by
  refine aw_iload_n (i := 1) d_X6_measureRows_36 rfl rfl ?_
  refine aw_aload_n (i := 0) d_X6_measureRows_37 rfl rfl ?_
  refine aw_getR fl_RX6_18 rfl d_X6_measureRows_38 ?_
  obtain ⟨j8, ej8, h⟩ := h
  rw [ej8]
  refine aw_callV0 (as := []) mw_Jx4a65c_size_8abf5 (by decide +kernel) ml_RX6_30 rfl d_X6_measureRows_41 rfl (Nat.le_of_ble_eq_true rfl) (AMet.mono h (aw_toI (fun x10 σ9 h => ?_)))
  refine aw_icmp_gt (tgt := 106) d_X6_measureRows_44 (by decide) (fun c => ?_) (fun c => ?_)
  · have h := h.1 c
    exact aw_vret d_X6_measureRows_106 rfl h
  · have h := h.2 c
    refine aw_iconst (x := 0) d_X6_measureRows_47 (by decide) ?_
    refine aw_istore_n (i := 2) d_X6_measureRows_48 rfl (by decide) ?_
    exact h
set_option maxRecDepth 20000 in
theorem vc_X6_measureRows_49 {G : GG} {l : Launch} {d : Nat} {post : Option AVal → AS → Prop} {σ : AS} {kk nn : Nat} {v1 : Int32} {v2 : Int32} (h : (∃ j11 : Nat, ((gR σ 7 0 0) = some (0, j11) ∧ (AMet G l M_Jx4a65c_size_8abf5 d 0 0 [xR (some (0, j11))] σ (retI (fun x13 σ12 => (((x13 ≤ v2 → AW G l M_X6_measureRows (d + 1) post σ12 kk nn 36 [some (xR (some (7, 0))), some (xI (v1 + 1)), none, none] [])) ∧ ((¬ x13 ≤ v2 → (∃ j14 : Nat, ((gR σ12 7 0 0) = some (0, j14) ∧ (AMet G l M_Jx4a65c_get_915e3 d 0 0 [xR (some (0, j14)), xI v2] σ12 (retR (fun r16 σ15 => (∃ j17 : Nat, (r16 = some (2, j17) ∧ (((¬ (gI σ15 2 8 j17) = (-1) → AW G l M_X6_measureRows (d + 1) post σ15 kk nn 49 [some (xR (some (7, 0))), some (xI v1), some (xI (v2 + 1)), none] [])) ∧ (((gI σ15 2 8 j17) = (-1) → AMet G l M_X6_firstOfRow d 0 0 [xR (some (7, 0)), xR (some (2, j17)), xI v1] σ15 (retR (fun r19 σ18 => (((r19 = none → AW G l M_X6_measureRows (d + 1) post σ18 kk nn 49 [some (xR (some (7, 0))), some (xI v1), some (xI (v2 + 1)), none] [])) ∧ ((∀ n : Nm, (r19 = some n → (∃ j20 : Nat, (n = (6, j20) ∧ AW G l M_X6_measureRows (d + 1) post (sI σ18 2 8 j17 v1) kk nn 49 [some (xR (some (7, 0))), some (xI v1), some (xI (v2 + 1)), none] []))))))))))))))))))))))))))) : AW G l M_X6_measureRows (d + 1) post σ kk nn 49 [some (xR (some (7, 0))), some (xI v1), some (xI v2), none] [] := by
  refine aw_iload_n (i := 2) d_X6_measureRows_49 rfl rfl ?_
  refine aw_aload_n (i := 0) d_X6_measureRows_50 rfl rfl ?_
  refine aw_getR fl_RX6_18 rfl d_X6_measureRows_51 ?_
  obtain ⟨j11, ej11, h⟩ := h
  rw [ej11]
  refine aw_callV0 (as := []) mw_Jx4a65c_size_8abf5 (by decide +kernel) ml_RX6_30 rfl d_X6_measureRows_54 rfl (Nat.le_of_ble_eq_true rfl) (AMet.mono h (aw_toI (fun x13 σ12 h => ?_)))
  refine aw_icmp_ge (tgt := 100) d_X6_measureRows_57 (by decide) (fun c => ?_) (fun c => ?_)
  · have h := h.1 c
    refine aw_iinc (i := 1) (v := v1 + 1) d_X6_measureRows_100 rfl rfl (by decide) ?_
    refine aw_goto (tgt := 36) d_X6_measureRows_103 (by decide) ?_
    exact AW.weak h (by exact ⟨rfl, ⟨rfl, trivial⟩⟩)
  · have h := h.2 c
    refine aw_aload_n (i := 0) d_X6_measureRows_60 rfl rfl ?_
    refine aw_getR fl_RX6_18 rfl d_X6_measureRows_61 ?_
    refine aw_iload_n (i := 2) d_X6_measureRows_64 rfl rfl ?_
    obtain ⟨j14, ej14, h⟩ := h
    rw [ej14]
    refine aw_callV0 (as := [xI v2]) mw_Jx4a65c_get_915e3 (by decide +kernel) ml_RX6_34 rfl d_X6_measureRows_65 rfl (Nat.le_of_ble_eq_true rfl) (AMet.mono h (aw_toR (fun r16 σ15 h => ?_)))
    obtain ⟨j17, ej17, h⟩ := h
    rw [ej17]
    refine aw_cast (c := 2) (by decide) cl_RX6_38 d_X6_measureRows_68 ?_
    refine aw_astore_n (i := 3) d_X6_measureRows_71 rfl (by decide) ?_
    refine aw_aload_n (i := 3) d_X6_measureRows_72 rfl rfl ?_
    refine aw_getI fl_RX6_103 rfl d_X6_measureRows_73 ?_
    refine aw_iconst (x := -1) d_X6_measureRows_76 (by decide) ?_
    refine aw_icmp_ne (tgt := 94) d_X6_measureRows_77 (by decide) (fun c => ?_) (fun c => ?_)
    · have h := h.1 c
      refine aw_iinc (i := 2) (v := v2 + 1) d_X6_measureRows_94 rfl rfl (by decide) ?_
      refine aw_goto (tgt := 49) d_X6_measureRows_97 (by decide) ?_
      exact AW.weak h (by exact ⟨rfl, ⟨rfl, ⟨rfl, trivial⟩⟩⟩)
    · have h := h.2 c
      refine aw_aload_n (i := 0) d_X6_measureRows_80 rfl rfl ?_
      refine aw_aload_n (i := 3) d_X6_measureRows_81 rfl rfl ?_
      refine aw_iload_n (i := 1) d_X6_measureRows_82 rfl rfl ?_
      refine aw_callV0 (as := [xR (some (2, j17)), xI v1]) mw_X6_firstOfRow (by decide +kernel) ml_RX6_106 rfl d_X6_measureRows_83 rfl (Nat.le_of_ble_eq_true rfl) (AMet.mono h (aw_toR (fun r19 σ18 h => ?_)))
      refine aw_ifnull (tgt := 94) d_X6_measureRows_86 (by decide) (fun c => ?_) (fun n c => ?_)
      · have h := h.1 c
        try rw [c]
        refine aw_iinc (i := 2) (v := v2 + 1) d_X6_measureRows_94 rfl rfl (by decide) ?_
        refine aw_goto (tgt := 49) d_X6_measureRows_97 (by decide) ?_
        exact AW.weak h (by exact ⟨rfl, ⟨rfl, ⟨rfl, trivial⟩⟩⟩)
      · obtain ⟨j20, e9, h⟩ := h.2 n c
        subst e9
        try rw [c]
        refine aw_aload_n (i := 3) d_X6_measureRows_89 rfl rfl ?_
        refine aw_iload_n (i := 1) d_X6_measureRows_90 rfl rfl ?_
        refine aw_putI fl_RX6_103 (by decide) (fin_no (r := (RX1, TX1, 9)) rfl rfl) d_X6_measureRows_91 rfl ⟨rfl, rfl⟩ ?_
        refine aw_iinc (i := 2) (v := v2 + 1) d_X6_measureRows_94 rfl rfl (by decide) ?_
        refine aw_goto (tgt := 49) d_X6_measureRows_97 (by decide) ?_
        exact AW.weak h (by exact ⟨rfl, ⟨rfl, ⟨rfl, trivial⟩⟩⟩)
set_option maxRecDepth 20000 in
theorem vc_X6_firstOfRow {G : GG} {l : Launch} {d : Nat} {post : Option AVal → AS → Prop} {σ : AS} {kk nn : Nat} {p1 : Nat} {a2 : Int32} (h : AW G l M_X6_firstOfRow (d + 1) post σ kk nn 2 [some (xR (some (7, 0))), some (xR (some (2, p1))), some (xI a2), some (xI 0), none, none] []) : AW G l M_X6_firstOfRow (d + 1) post σ kk nn 0 [some (xR (some (7, 0))), some (xR (some (2, p1))), some (xI a2), none, none, none] [] := by
  refine aw_iconst (x := 0) d_X6_firstOfRow_0 (by decide) ?_
  refine aw_istore_n (i := 3) d_X6_firstOfRow_1 rfl (by decide) ?_
  exact h
set_option maxRecDepth 20000 in
theorem vc_X6_firstOfRow_2 {G : GG} {l : Launch} {d : Nat} {post : Option AVal → AS → Prop} {σ : AS} {kk nn : Nat} {v1 : Nat} {v2 : Int32} {v3 : Int32} (hS : St σ) (h : AMet G l M_Jx4a65c_size_8abf5 d 0 0 [xR (some (0, 0))] σ (retI (fun x2 σ1 => (St σ1 ∧ (((x2 ≤ v3 → post (some (xR none)) σ1)) ∧ ((¬ x2 ≤ v3 → AMet G l M_Jx4a65c_get_915e3 d 0 0 [xR (some (0, 0)), xI v3] σ1 (retR (fun r4 σ3 => (∃ j5 : Nat, (r4 = some (6, j5) ∧ ((((gR σ3 6 11 j5) = none → (((¬ v2 = 1 → AW G l M_X6_firstOfRow (d + 1) post σ3 kk nn 2 [some (xR (some (7, 0))), some (xR (some (2, v1))), some (xI v2), some (xI (v3 + 1)), none, none] [])) ∧ ((v2 = 1 → ((((gR σ3 6 11 j5) = (some (2, v1)) → AW G l M_X6_firstOfRow (d + 1) post σ3 kk nn 2 [some (xR (some (7, 0))), some (xR (some (2, v1))), some (xI v2), some (xI (v3 + 1)), none, none] [])) ∧ ((¬ (gR σ3 6 11 j5) = (some (2, v1)) → AMet G l M_X5_canBeIn d 0 0 [xR (some (6, j5)), xR (some (2, v1))] σ3 (retI (fun x7 σ6 => (((x7 = 0 → AW G l M_X6_firstOfRow (d + 1) post σ6 kk nn 2 [some (xR (some (7, 0))), some (xR (some (2, v1))), some (xI v2), some (xI (v3 + 1)), none, none] [])) ∧ ((¬ x7 = 0 → post (some (xR (some (6, j5)))) σ6))))))))))))) ∧ ((∀ n : Nm, ((gR σ3 6 11 j5) = some n → (∃ j8 : Nat, (n = (2, j8) ∧ ((∃ j9 : Nat, ((gR σ3 6 11 j5) = some (2, j9) ∧ (((¬ (gI σ3 2 8 j9) = (v2 - 1) → AW G l M_X6_firstOfRow (d + 1) post σ3 kk nn 2 [some (xR (some (7, 0))), some (xR (some (2, v1))), some (xI v2), some (xI (v3 + 1)), none, none] [])) ∧ (((gI σ3 2 8 j9) = (v2 - 1) → ((((some (2, j9)) = (some (2, v1)) → AW G l M_X6_firstOfRow (d + 1) post σ3 kk nn 2 [some (xR (some (7, 0))), some (xR (some (2, v1))), some (xI v2), some (xI (v3 + 1)), none, none] [])) ∧ ((¬ (some (2, j9)) = (some (2, v1)) → AMet G l M_X5_canBeIn d 0 0 [xR (some (6, j5)), xR (some (2, v1))] σ3 (retI (fun x11 σ10 => (((x11 = 0 → AW G l M_X6_firstOfRow (d + 1) post σ10 kk nn 2 [some (xR (some (7, 0))), some (xR (some (2, v1))), some (xI v2), some (xI (v3 + 1)), none, none] [])) ∧ ((¬ x11 = 0 → post (some (xR (some (6, j5)))) σ10))))))))))))))))))))))))))))))) : AW G l M_X6_firstOfRow (d + 1) post σ kk nn 2 [some (xR (some (7, 0))), some (xR (some (2, v1))), some (xI v2), some (xI v3), none, none] [] := by
  refine aw_iload_n (i := 3) d_X6_firstOfRow_2 rfl rfl ?_
  refine aw_aload_n (i := 0) d_X6_firstOfRow_3 rfl rfl ?_
  refine aw_getRv fl_RX6_12 rfl (r := some (0, 0)) (St.get hS 7 2 0 0 0 (by decide)) d_X6_firstOfRow_4 ?_
  refine aw_callV0 (as := []) mw_Jx4a65c_size_8abf5 (by decide +kernel) ml_RX6_30 rfl d_X6_firstOfRow_7 rfl (Nat.le_of_ble_eq_true rfl) (AMet.mono h (aw_toI (fun x2 σ1 h => ?_)))
  obtain ⟨hS1, h⟩ := h
  refine aw_icmp_ge (tgt := 100) d_X6_firstOfRow_10 (by decide) (fun c => ?_) (fun c => ?_)
  · have h := h.1 c
    refine aw_null d_X6_firstOfRow_100 ?_
    exact aw_aret d_X6_firstOfRow_101 rfl (Or.inl ⟨_, rfl⟩) h
  · have h := h.2 c
    refine aw_aload_n (i := 0) d_X6_firstOfRow_13 rfl rfl ?_
    refine aw_getRv fl_RX6_12 rfl (r := some (0, 0)) (St.get hS1 7 2 0 0 0 (by decide)) d_X6_firstOfRow_14 ?_
    refine aw_iload_n (i := 3) d_X6_firstOfRow_17 rfl rfl ?_
    refine aw_callV0 (as := [xI v3]) mw_Jx4a65c_get_915e3 (by decide +kernel) ml_RX6_34 rfl d_X6_firstOfRow_18 rfl (Nat.le_of_ble_eq_true rfl) (AMet.mono h (aw_toR (fun r4 σ3 h => ?_)))
    obtain ⟨j5, ej5, h⟩ := h
    rw [ej5]
    refine aw_cast (c := 6) (by decide) cl_RX6_47 d_X6_firstOfRow_21 ?_
    refine aw_astore (i := 4) d_X6_firstOfRow_24 (by decide) ?_
    refine aw_aload (i := 4) d_X6_firstOfRow_26 rfl ?_
    refine aw_getR fl_RX6_73 rfl d_X6_firstOfRow_28 ?_
    refine aw_ifnonnull (tgt := 47) d_X6_firstOfRow_31 (by decide) (fun n c => ?_) (fun c => ?_)
    · obtain ⟨j8, e9, h⟩ := h.2 n c
      subst e9
      try rw [c]
      refine aw_aload (i := 4) d_X6_firstOfRow_47 rfl ?_
      refine aw_getR fl_RX6_73 rfl d_X6_firstOfRow_49 ?_
      obtain ⟨j9, ej9, h⟩ := h
      rw [ej9]
      refine aw_getI fl_RX6_103 rfl d_X6_firstOfRow_52 ?_
      refine aw_iload_n (i := 2) d_X6_firstOfRow_55 rfl rfl ?_
      refine aw_iconst (x := 1) d_X6_firstOfRow_56 (by decide) ?_
      refine aw_isub d_X6_firstOfRow_57 ?_
      refine aw_icmp_ne (tgt := 65) d_X6_firstOfRow_58 (by decide) (fun c => ?_) (fun c => ?_)
      · have h := h.1 c
        refine aw_iconst (x := 0) d_X6_firstOfRow_65 (by decide) ?_
        refine aw_istore (i := 5) d_X6_firstOfRow_66 (by decide) ?_
        refine aw_iload (i := 5) d_X6_firstOfRow_68 rfl ?_
        refine aw_if_eq (tgt := 94) d_X6_firstOfRow_70 (by decide) (fun _ => ?_) (fun c => absurd c (by decide))
        refine aw_iinc (i := 3) (v := v3 + 1) d_X6_firstOfRow_94 rfl rfl (by decide) ?_
        refine aw_goto (tgt := 2) d_X6_firstOfRow_97 (by decide) ?_
        exact AW.weak h (by exact ⟨rfl, ⟨rfl, ⟨rfl, ⟨rfl, trivial⟩⟩⟩⟩)
      · have h := h.2 c
        refine aw_iconst (x := 1) d_X6_firstOfRow_61 (by decide) ?_
        refine aw_goto (tgt := 66) d_X6_firstOfRow_62 (by decide) ?_
        refine aw_istore (i := 5) d_X6_firstOfRow_66 (by decide) ?_
        refine aw_iload (i := 5) d_X6_firstOfRow_68 rfl ?_
        refine aw_if_eq (tgt := 94) d_X6_firstOfRow_70 (by decide) (fun c => absurd c (by decide)) (fun _ => ?_)
        refine aw_aload (i := 4) d_X6_firstOfRow_73 rfl ?_
        refine aw_getRv fl_RX6_73 rfl (r := (some (2, j9))) ej9 d_X6_firstOfRow_75 ?_
        refine aw_aload_n (i := 1) d_X6_firstOfRow_78 rfl rfl ?_
        refine aw_acmp_eq (tgt := 94) d_X6_firstOfRow_79 (by decide) (fun n m e1 e2 => by cases e1; cases e2; exact Or.inl ⟨by simp [fixd], by show (2 : Nat) ≠ 31; decide⟩) (fun c => ?_) (fun c => ?_)
        · have h := h.1 c
          refine aw_iinc (i := 3) (v := v3 + 1) d_X6_firstOfRow_94 rfl rfl (by decide) ?_
          refine aw_goto (tgt := 2) d_X6_firstOfRow_97 (by decide) ?_
          exact AW.weak h (by exact ⟨rfl, ⟨rfl, ⟨rfl, ⟨rfl, trivial⟩⟩⟩⟩)
        · have h := h.2 c
          refine aw_aload (i := 4) d_X6_firstOfRow_82 rfl ?_
          refine aw_aload_n (i := 1) d_X6_firstOfRow_84 rfl rfl ?_
          refine aw_callV0 (as := [xR (some (2, v1))]) mw_X5_canBeIn (by decide +kernel) ml_RX6_84 rfl d_X6_firstOfRow_85 rfl (Nat.le_of_ble_eq_true rfl) (AMet.mono h (aw_toI (fun x11 σ10 h => ?_)))
          refine aw_if_eq (tgt := 94) d_X6_firstOfRow_88 (by decide) (fun c => ?_) (fun c => ?_)
          · have h := h.1 c
            refine aw_iinc (i := 3) (v := v3 + 1) d_X6_firstOfRow_94 rfl rfl (by decide) ?_
            refine aw_goto (tgt := 2) d_X6_firstOfRow_97 (by decide) ?_
            exact AW.weak h (by exact ⟨rfl, ⟨rfl, ⟨rfl, ⟨rfl, trivial⟩⟩⟩⟩)
          · have h := h.2 c
            refine aw_aload (i := 4) d_X6_firstOfRow_91 rfl ?_
            exact aw_aret d_X6_firstOfRow_93 rfl (Or.inl ⟨_, rfl⟩) h
    · have h := h.1 c
      have c9 := c
      try rw [c]
      refine aw_iload_n (i := 2) d_X6_firstOfRow_34 rfl rfl ?_
      refine aw_iconst (x := 1) d_X6_firstOfRow_35 (by decide) ?_
      refine aw_icmp_ne (tgt := 43) d_X6_firstOfRow_36 (by decide) (fun c => ?_) (fun c => ?_)
      · have h := h.1 c
        refine aw_iconst (x := 0) d_X6_firstOfRow_43 (by decide) ?_
        refine aw_goto (tgt := 66) d_X6_firstOfRow_44 (by decide) ?_
        refine aw_istore (i := 5) d_X6_firstOfRow_66 (by decide) ?_
        refine aw_iload (i := 5) d_X6_firstOfRow_68 rfl ?_
        refine aw_if_eq (tgt := 94) d_X6_firstOfRow_70 (by decide) (fun _ => ?_) (fun c => absurd c (by decide))
        refine aw_iinc (i := 3) (v := v3 + 1) d_X6_firstOfRow_94 rfl rfl (by decide) ?_
        refine aw_goto (tgt := 2) d_X6_firstOfRow_97 (by decide) ?_
        exact AW.weak h (by exact ⟨rfl, ⟨rfl, ⟨rfl, ⟨rfl, trivial⟩⟩⟩⟩)
      · have h := h.2 c
        refine aw_iconst (x := 1) d_X6_firstOfRow_39 (by decide) ?_
        refine aw_goto (tgt := 66) d_X6_firstOfRow_40 (by decide) ?_
        refine aw_istore (i := 5) d_X6_firstOfRow_66 (by decide) ?_
        refine aw_iload (i := 5) d_X6_firstOfRow_68 rfl ?_
        refine aw_if_eq (tgt := 94) d_X6_firstOfRow_70 (by decide) (fun c => absurd c (by decide)) (fun _ => ?_)
        refine aw_aload (i := 4) d_X6_firstOfRow_73 rfl ?_
        refine aw_getR fl_RX6_73 rfl d_X6_firstOfRow_75 ?_
        refine aw_aload_n (i := 1) d_X6_firstOfRow_78 rfl rfl ?_
        refine aw_acmp_eq (tgt := 94) d_X6_firstOfRow_79 (by decide) (fun n m e1 e2 => by rw [c9] at e1; cases e1) (fun c => ?_) (fun c => ?_)
        · have h := h.1 c
          refine aw_iinc (i := 3) (v := v3 + 1) d_X6_firstOfRow_94 rfl rfl (by decide) ?_
          refine aw_goto (tgt := 2) d_X6_firstOfRow_97 (by decide) ?_
          exact AW.weak h (by exact ⟨rfl, ⟨rfl, ⟨rfl, ⟨rfl, trivial⟩⟩⟩⟩)
        · have h := h.2 c
          refine aw_aload (i := 4) d_X6_firstOfRow_82 rfl ?_
          refine aw_aload_n (i := 1) d_X6_firstOfRow_84 rfl rfl ?_
          refine aw_callV0 (as := [xR (some (2, v1))]) mw_X5_canBeIn (by decide +kernel) ml_RX6_84 rfl d_X6_firstOfRow_85 rfl (Nat.le_of_ble_eq_true rfl) (AMet.mono h (aw_toI (fun x7 σ6 h => ?_)))
          refine aw_if_eq (tgt := 94) d_X6_firstOfRow_88 (by decide) (fun c => ?_) (fun c => ?_)
          · have h := h.1 c
            refine aw_iinc (i := 3) (v := v3 + 1) d_X6_firstOfRow_94 rfl rfl (by decide) ?_
            refine aw_goto (tgt := 2) d_X6_firstOfRow_97 (by decide) ?_
            exact AW.weak h (by exact ⟨rfl, ⟨rfl, ⟨rfl, ⟨rfl, trivial⟩⟩⟩⟩)
          · have h := h.2 c
            refine aw_aload (i := 4) d_X6_firstOfRow_91 rfl ?_
            exact aw_aret d_X6_firstOfRow_93 rfl (Or.inl ⟨_, rfl⟩) h
set_option maxRecDepth 20000 in
theorem vc_X7_init {G : GG} {l : Launch} {d : Nat} {post : Option AVal → AS → Prop} {σ : AS} {kk nn : Nat} {i0 : Nat} {a1 : Int32} (h : (((a1 < 0 → (∃ kk1 nn2 : Nat, (kk = kk1 + 1 ∧ nn = nn2 + 0 ∧ post none (sR (nA σ 20 0) 8 0 i0 (some (20, (cnt σ 20)))))))) ∧ ((¬ a1 < 0 → (∃ N5 kk3 nn4 : Nat, (a1.toNatClampNeg = N5 ∧ ¬ a1 < 0 ∧ N5 ≤ 60000000 ∧ kk = kk3 + 1 ∧ nn = nn4 + N5 ∧ post none (sR (nA σ 20 N5) 8 0 i0 (some (20, (cnt σ 20)))))))))) : AW G l M_X7_init (d + 1) post σ kk nn 0 [some (xR (some (8, i0))), some (xI a1)] [] := by
  refine aw_aload_n (i := 0) d_X7_init_0 rfl rfl ?_
  refine aw_objInit oi_RX7_3 d_X7_init_1 (Nat.le_of_ble_eq_true rfl) ?_
  refine aw_aload_n (i := 0) d_X7_init_4 rfl rfl ?_
  refine aw_iload_n (i := 1) d_X7_init_5 rfl rfl ?_
  refine aw_if_lt (tgt := 13) d_X7_init_6 (by decide) (fun c => ?_) (fun c => ?_)
  · have h := h.1 c
    refine aw_iconst (x := 0) d_X7_init_13 (by decide) ?_
    obtain ⟨kk1, nn2, ek, en, h⟩ := h
    rw [ek, en]
    refine aw_newarr 20 (at0 := .int) (t := 0) (N := 0) (by decide) (by decide) rfl (Or.inl ⟨rfl, rfl⟩) ac_int d_X7_init_14 (by decide) (by decide) ?_
    refine aw_putR fl_RX7_9 (by decide) (fin_init (r := (RX7, TX7, 2)) rfl rfl rfl) d_X7_init_16 rfl (by decide) ?_
    exact aw_vret d_X7_init_19 rfl h
  · have h := h.2 c
    refine aw_iload_n (i := 1) d_X7_init_9 rfl rfl ?_
    refine aw_goto (tgt := 14) d_X7_init_10 (by decide) ?_
    obtain ⟨N5, kk3, nn4, hN, hx, hb, ek, en, h⟩ := h
    rw [ek, en]
    refine aw_newarr 20 (at0 := .int) (t := 0) (N := N5) hN (by decide) rfl (Or.inl ⟨rfl, rfl⟩) ac_int d_X7_init_14 hx hb ?_
    refine aw_putR fl_RX7_9 (by decide) (fin_init (r := (RX7, TX7, 2)) rfl rfl rfl) d_X7_init_16 rfl (by decide) ?_
    exact aw_vret d_X7_init_19 rfl h
