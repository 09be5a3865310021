set_option maxRecDepth 20000 in
theorem vc_X12_isRecord {G : GG} {l : Launch} {d : Nat} {post : Option AVal → AS → Prop} {σ : AS} {kk nn : Nat} {a1 : Int32} {a2 : Int32} (h : AMet G l M_X12_isPerson d 0 0 [xR (some (13, 0)), xI a1] σ (retI (fun x2 σ1 => (St σ1 ∧ (((x2 = 0 → post (some (xI 0)) σ1)) ∧ ((¬ x2 = 0 → (((a2 < 0 → post (some (xI 0)) σ1)) ∧ ((¬ a2 < 0 → ((((gI σ1 13 2 0) ≤ a2 → post (some (xI 0)) σ1)) ∧ ((¬ (gI σ1 13 2 0) ≤ a2 → (vp_in ((40 * a2) + a1) 2400 ∧ ((((gA σ1 26 27 ((40 * a2) + a1).toNatClampNeg) = (-1) → post (some (xI 0)) σ1)) ∧ ((¬ (gA σ1 26 27 ((40 * a2) + a1).toNatClampNeg) = (-1) → post (some (xI 1)) σ1))))))))))))))))) : AW G l M_X12_isRecord (d + 1) post σ kk nn 0 [some (xR (some (13, 0))), some (xI a1), some (xI a2)] [] := by
  refine aw_aload_n (i := 0) d_X12_isRecord_0 rfl rfl ?_
  refine aw_iload_n (i := 1) d_X12_isRecord_1 rfl rfl ?_
  refine aw_callV0 (as := [xI a1]) mw_X12_isPerson (by decide +kernel) ml_RX12_159 rfl d_X12_isRecord_2 rfl (Nat.le_of_ble_eq_true rfl) (AMet.mono h (aw_toI (fun x2 σ1 h => ?_)))
  obtain ⟨hS1, h⟩ := h
  refine aw_if_eq (tgt := 39) d_X12_isRecord_5 (by decide) (fun c => ?_) (fun c => ?_)
  · have h := h.1 c
    refine aw_iconst (x := 0) d_X12_isRecord_39 (by decide) ?_
    exact aw_ret d_X12_isRecord_40 rfl (by decide) h
  · have h := h.2 c
    refine aw_iload_n (i := 2) d_X12_isRecord_8 rfl rfl ?_
    refine aw_if_lt (tgt := 39) d_X12_isRecord_9 (by decide) (fun c => ?_) (fun c => ?_)
    · have h := h.1 c
      refine aw_iconst (x := 0) d_X12_isRecord_39 (by decide) ?_
      exact aw_ret d_X12_isRecord_40 rfl (by decide) h
    · have h := h.2 c
      refine aw_iload_n (i := 2) d_X12_isRecord_12 rfl rfl ?_
      refine aw_aload_n (i := 0) d_X12_isRecord_13 rfl rfl ?_
      refine aw_getI fl_RX12_304 rfl d_X12_isRecord_14 ?_
      refine aw_icmp_ge (tgt := 39) d_X12_isRecord_17 (by decide) (fun c => ?_) (fun c => ?_)
      · have h := h.1 c
        refine aw_iconst (x := 0) d_X12_isRecord_39 (by decide) ?_
        exact aw_ret d_X12_isRecord_40 rfl (by decide) h
      · have h := h.2 c
        refine aw_aload_n (i := 0) d_X12_isRecord_20 rfl rfl ?_
        refine aw_getRv fl_RX12_118 rfl (r := some (26, 27)) (St.get hS1 13 56 0 26 27 (by decide)) d_X12_isRecord_21 ?_
        refine aw_bipush (x := 40) d_X12_isRecord_24 (by decide) ?_
        refine aw_iload_n (i := 2) d_X12_isRecord_26 rfl rfl ?_
        refine aw_imul d_X12_isRecord_27 ?_
        refine aw_iload_n (i := 1) d_X12_isRecord_28 rfl rfl ?_
        refine aw_iadd d_X12_isRecord_29 ?_
        obtain ⟨hq, h⟩ := h
        refine aw_iald d_X12_isRecord_30 (by decide) (vp_of (St.len hS1 26 27 2400 (by decide)) hq) ?_
        refine aw_iconst (x := -1) d_X12_isRecord_31 (by decide) ?_
        refine aw_icmp_eq (tgt := 39) d_X12_isRecord_32 (by decide) (fun c => ?_) (fun c => ?_)
        · have h := h.1 c
          refine aw_iconst (x := 0) d_X12_isRecord_39 (by decide) ?_
          exact aw_ret d_X12_isRecord_40 rfl (by decide) h
        · have h := h.2 c
          refine aw_iconst (x := 1) d_X12_isRecord_35 (by decide) ?_
          refine aw_goto (tgt := 40) d_X12_isRecord_36 (by decide) ?_
          exact aw_ret d_X12_isRecord_40 rfl (by decide) h
set_option maxRecDepth 20000 in
theorem vc_X12_record {G : GG} {l : Launch} {d : Nat} {post : Option AVal → AS → Prop} {σ : AS} {kk nn : Nat} {a1 : Int32} {a2 : Int32} {a3 : Int32} (h : AMet G l M_X12_isRecord d 0 0 [xR (some (13, 0)), xI a1, xI a2] (sI σ 13 0 0 0) (retI (fun x2 σ1 => (St σ1 ∧ (((¬ x2 = 0 → (((a3 = 0 → (vp_in ((40 * a2) + a1) 2400 ∧ post (some (xI (gA σ1 26 27 ((40 * a2) + a1).toNatClampNeg))) σ1))) ∧ ((a3 = 1 → (vp_in ((40 * a2) + a1) 2400 ∧ post (some (xI (gA σ1 26 28 ((40 * a2) + a1).toNatClampNeg))) σ1))) ∧ ((a3 = 2 → (vp_in ((40 * a2) + a1) 2400 ∧ post (some (xI (gA σ1 26 29 ((40 * a2) + a1).toNatClampNeg))) σ1))) ∧ ((a3 = 3 → (vp_in ((40 * a2) + a1) 2400 ∧ post (some (xI (gA σ1 26 30 ((40 * a2) + a1).toNatClampNeg))) σ1))) ∧ ((a3 = 4 → (vp_in ((40 * a2) + a1) 2400 ∧ post (some (xI (gA σ1 26 31 ((40 * a2) + a1).toNatClampNeg))) σ1))) ∧ ((a3 = 5 → (vp_in ((40 * a2) + a1) 2400 ∧ post (some (xI (gA σ1 26 32 ((40 * a2) + a1).toNatClampNeg))) σ1))) ∧ ((a3 = 6 → (vp_in ((40 * a2) + a1) 2400 ∧ (vp_in ((40 * a2) + a1) 2400 ∧ (vp_in ((40 * a2) + a1) 2400 ∧ (AMet G l M_X12_worth d 0 0 [xR (some (13, 0)), xI (gA σ1 26 32 ((40 * a2) + a1).toNatClampNeg), xI (gA σ1 26 28 ((40 * a2) + a1).toNatClampNeg), xI (gA σ1 26 31 ((40 * a2) + a1).toNatClampNeg)] σ1 (retI (fun x4 σ3 => post (some (xI x4)) σ3)))))))) ∧ (((a3.toInt < 0 ∨ 6 < a3.toInt) → post (some (xI (-1))) σ1))))) ∧ ((x2 = 0 → post (some (xI (-1))) σ1))))))) : AW G l M_X12_record (d + 1) post σ kk nn 0 [some (xR (some (13, 0))), some (xI a1), some (xI a2), some (xI a3), none] [] := by
  refine aw_aload_n (i := 0) d_X12_record_0 rfl rfl ?_
  refine aw_iconst (x := 0) d_X12_record_1 (by decide) ?_
  refine aw_putI fl_RX12_1 (by decide) (fin_no (r := (RX12, TX12, 68)) rfl rfl) d_X12_record_2 rfl ⟨rfl, rfl⟩ ?_
  refine aw_aload_n (i := 0) d_X12_record_5 rfl rfl ?_
  refine aw_iload_n (i := 1) d_X12_record_6 rfl rfl ?_
  refine aw_iload_n (i := 2) d_X12_record_7 rfl rfl ?_
  refine aw_callV0 (as := [xI a1, xI a2]) mw_X12_isRecord (by decide +kernel) ml_RX12_378 rfl d_X12_record_8 rfl (Nat.le_of_ble_eq_true rfl) (AMet.mono h (aw_toI (fun x2 σ1 h => ?_)))
  obtain ⟨hS1, h⟩ := h
  refine aw_if_ne (tgt := 16) d_X12_record_11 (by decide) (fun c => ?_) (fun c => ?_)
  · have h := h.1 c
    refine aw_bipush (x := 40) d_X12_record_16 (by decide) ?_
    refine aw_iload_n (i := 2) d_X12_record_18 rfl rfl ?_
    refine aw_imul d_X12_record_19 ?_
    refine aw_iload_n (i := 1) d_X12_record_20 rfl rfl ?_
    refine aw_iadd d_X12_record_21 ?_
    refine aw_istore (i := 4) d_X12_record_22 (by decide) ?_
    refine aw_iload_n (i := 3) d_X12_record_24 rfl rfl ?_
    by_cases c0 : a3 = 0
    · have c := c0
      have h := h.1 c
      refine aw_sw (k := 0) (off := 43) (tgt := 68) d_X12_record_25 c (by decide) (by decide) (by decide) (by decide) ?_
      refine aw_aload_n (i := 0) d_X12_record_68 rfl rfl ?_
      refine aw_getRv fl_RX12_118 rfl (r := some (26, 27)) (St.get hS1 13 56 0 26 27 (by decide)) d_X12_record_69 ?_
      refine aw_iload (i := 4) d_X12_record_72 rfl ?_
      obtain ⟨hq, h⟩ := h
      refine aw_iald d_X12_record_74 (by decide) (vp_of (St.len hS1 26 27 2400 (by decide)) hq) ?_
      exact aw_ret d_X12_record_75 rfl rfl h
    by_cases c1 : a3 = 1
    · have c := c1
      have h := h.2.1 c
      refine aw_sw (k := 1) (off := 51) (tgt := 76) d_X12_record_25 c (by decide) (by decide) (by decide) (by decide) ?_
      refine aw_aload_n (i := 0) d_X12_record_76 rfl rfl ?_
      refine aw_getRv fl_RX12_121 rfl (r := some (26, 28)) (St.get hS1 13 57 0 26 28 (by decide)) d_X12_record_77 ?_
      refine aw_iload (i := 4) d_X12_record_80 rfl ?_
      obtain ⟨hq, h⟩ := h
      refine aw_iald d_X12_record_82 (by decide) (vp_of (St.len hS1 26 28 2400 (by decide)) hq) ?_
      exact aw_ret d_X12_record_83 rfl rfl h
    by_cases c2 : a3 = 2
    · have c := c2
      have h := h.2.2.1 c
      refine aw_sw (k := 2) (off := 59) (tgt := 84) d_X12_record_25 c (by decide) (by decide) (by decide) (by decide) ?_
      refine aw_aload_n (i := 0) d_X12_record_84 rfl rfl ?_
      refine aw_getRv fl_RX12_124 rfl (r := some (26, 29)) (St.get hS1 13 58 0 26 29 (by decide)) d_X12_record_85 ?_
      refine aw_iload (i := 4) d_X12_record_88 rfl ?_
      obtain ⟨hq, h⟩ := h
      refine aw_iald d_X12_record_90 (by decide) (vp_of (St.len hS1 26 29 2400 (by decide)) hq) ?_
      exact aw_ret d_X12_record_91 rfl rfl h
    by_cases c3 : a3 = 3
    · have c := c3
      have h := h.2.2.2.1 c
      refine aw_sw (k := 3) (off := 67) (tgt := 92) d_X12_record_25 c (by decide) (by decide) (by decide) (by decide) ?_
      refine aw_aload_n (i := 0) d_X12_record_92 rfl rfl ?_
      refine aw_getRv fl_RX12_127 rfl (r := some (26, 30)) (St.get hS1 13 59 0 26 30 (by decide)) d_X12_record_93 ?_
      refine aw_iload (i := 4) d_X12_record_96 rfl ?_
      obtain ⟨hq, h⟩ := h
      refine aw_iald d_X12_record_98 (by decide) (vp_of (St.len hS1 26 30 2400 (by decide)) hq) ?_
      exact aw_ret d_X12_record_99 rfl rfl h
    by_cases c4 : a3 = 4
    · have c := c4
      have h := h.2.2.2.2.1 c
      refine aw_sw (k := 4) (off := 75) (tgt := 100) d_X12_record_25 c (by decide) (by decide) (by decide) (by decide) ?_
      refine aw_aload_n (i := 0) d_X12_record_100 rfl rfl ?_
      refine aw_getRv fl_RX12_130 rfl (r := some (26, 31)) (St.get hS1 13 60 0 26 31 (by decide)) d_X12_record_101 ?_
      refine aw_iload (i := 4) d_X12_record_104 rfl ?_
      obtain ⟨hq, h⟩ := h
      refine aw_iald d_X12_record_106 (by decide) (vp_of (St.len hS1 26 31 2400 (by decide)) hq) ?_
      exact aw_ret d_X12_record_107 rfl rfl h
    by_cases c5 : a3 = 5
    · have c := c5
      have h := h.2.2.2.2.2.1 c
      refine aw_sw (k := 5) (off := 83) (tgt := 108) d_X12_record_25 c (by decide) (by decide) (by decide) (by decide) ?_
      refine aw_aload_n (i := 0) d_X12_record_108 rfl rfl ?_
      refine aw_getRv fl_RX12_133 rfl (r := some (26, 32)) (St.get hS1 13 61 0 26 32 (by decide)) d_X12_record_109 ?_
      refine aw_iload (i := 4) d_X12_record_112 rfl ?_
      obtain ⟨hq, h⟩ := h
      refine aw_iald d_X12_record_114 (by decide) (vp_of (St.len hS1 26 32 2400 (by decide)) hq) ?_
      exact aw_ret d_X12_record_115 rfl rfl h
    by_cases c6 : a3 = 6
    · have c := c6
      have h := h.2.2.2.2.2.2.1 c
      refine aw_sw (k := 6) (off := 91) (tgt := 116) d_X12_record_25 c (by decide) (by decide) (by decide) (by decide) ?_
      refine aw_aload_n (i := 0) d_X12_record_116 rfl rfl ?_
      refine aw_aload_n (i := 0) d_X12_record_117 rfl rfl ?_
      refine aw_getRv fl_RX12_133 rfl (r := some (26, 32)) (St.get hS1 13 61 0 26 32 (by decide)) d_X12_record_118 ?_
      refine aw_iload (i := 4) d_X12_record_121 rfl ?_
      obtain ⟨hq, h⟩ := h
      refine aw_iald d_X12_record_123 (by decide) (vp_of (St.len hS1 26 32 2400 (by decide)) hq) ?_
      refine aw_aload_n (i := 0) d_X12_record_124 rfl rfl ?_
      refine aw_getRv fl_RX12_121 rfl (r := some (26, 28)) (St.get hS1 13 57 0 26 28 (by decide)) d_X12_record_125 ?_
      refine aw_iload (i := 4) d_X12_record_128 rfl ?_
      obtain ⟨hq, h⟩ := h
      refine aw_iald d_X12_record_130 (by decide) (vp_of (St.len hS1 26 28 2400 (by decide)) hq) ?_
      refine aw_aload_n (i := 0) d_X12_record_131 rfl rfl ?_
      refine aw_getRv fl_RX12_130 rfl (r := some (26, 31)) (St.get hS1 13 60 0 26 31 (by decide)) d_X12_record_132 ?_
      refine aw_iload (i := 4) d_X12_record_135 rfl ?_
      obtain ⟨hq, h⟩ := h
      refine aw_iald d_X12_record_137 (by decide) (vp_of (St.len hS1 26 31 2400 (by decide)) hq) ?_
      refine aw_callV0 (as := [xI (gA σ1 26 32 ((40 * a2) + a1).toNatClampNeg), xI (gA σ1 26 28 ((40 * a2) + a1).toNatClampNeg), xI (gA σ1 26 31 ((40 * a2) + a1).toNatClampNeg)]) mw_X12_worth (by decide +kernel) ml_RX12_381 rfl d_X12_record_138 rfl (Nat.le_of_ble_eq_true rfl) (AMet.mono h (aw_toI (fun x4 σ3 h => ?_)))
      exact aw_ret d_X12_record_141 rfl rfl h
    have c : a3.toInt < 0 ∨ 6 < a3.toInt := by
      have q0 : ¬ a3.toInt = 0 := fun e => c0 (i32_eq (e.trans (by decide)))
      have q1 : ¬ a3.toInt = 1 := fun e => c1 (i32_eq (e.trans (by decide)))
      have q2 : ¬ a3.toInt = 2 := fun e => c2 (i32_eq (e.trans (by decide)))
      have q3 : ¬ a3.toInt = 3 := fun e => c3 (i32_eq (e.trans (by decide)))
      have q4 : ¬ a3.toInt = 4 := fun e => c4 (i32_eq (e.trans (by decide)))
      have q5 : ¬ a3.toInt = 5 := fun e => c5 (i32_eq (e.trans (by decide)))
      have q6 : ¬ a3.toInt = 6 := fun e => c6 (i32_eq (e.trans (by decide)))
      omega
    have h := h.2.2.2.2.2.2.2 c
    refine aw_switchOut (tgt := 142) d_X12_record_25 c (by decide) ?_
    refine aw_iconst (x := -1) d_X12_record_142 (by decide) ?_
    exact aw_ret d_X12_record_143 rfl rfl h
  · have h := h.2 c
    refine aw_iconst (x := -1) d_X12_record_14 (by decide) ?_
    exact aw_ret d_X12_record_15 rfl rfl h
set_option maxRecDepth 20000 in
theorem vc_X12_pay {G : GG} {l : Launch} {d : Nat} {post : Option AVal → AS → Prop} {σ : AS} {kk nn : Nat} {a1 : Int32} {a2 : Int32} {a3 : Int32} (h : AW G l M_X12_pay (d + 1) post (sI σ 13 0 0 0) kk nn 11 [some (xR (some (13, 0))), some (xI a1), some (xI a2), some (xI a3), some (xL 0), none, some (xI 0)] []) : AW G l M_X12_pay (d + 1) post σ kk nn 0 [some (xR (some (13, 0))), some (xI a1), some (xI a2), some (xI a3), none, none, none] [] := by
  refine aw_aload_n (i := 0) d_X12_pay_0 rfl rfl ?_
  refine aw_iconst (x := 0) d_X12_pay_1 (by decide) ?_
  refine aw_putI fl_RX12_1 (by decide) (fin_no (r := (RX12, TX12, 68)) rfl rfl) d_X12_pay_2 rfl ⟨rfl, rfl⟩ ?_
  refine aw_lconst (x := 0) d_X12_pay_5 (by decide) ?_
  refine aw_lstore (i := 4) d_X12_pay_6 (by decide) ?_
  refine aw_iconst (x := 0) d_X12_pay_8 (by decide) ?_
  refine aw_istore (i := 6) d_X12_pay_9 (by decide) ?_
  exact h
set_option maxRecDepth 20000 in
theorem vc_X12_pay_11 {G : GG} {l : Launch} {d : Nat} {post : Option AVal → AS → Prop} {σ : AS} {kk nn : Nat} {v1 : Int32} {v2 : Int32} {v3 : Int32} {v4 : Int64} {v6 : Int32} (h : ((((gI σ 13 2 0) ≤ v6 → post (some (xL v4)) σ)) ∧ ((¬ (gI σ 13 2 0) ≤ v6 → (((v6 < v2 → AW G l M_X12_pay (d + 1) post σ kk nn 11 [some (xR (some (13, 0))), some (xI v1), some (xI v2), some (xI v3), some (xL v4), none, some (xI (v6 + 1))] [])) ∧ ((¬ v6 < v2 → (((v3 < v6 → AW G l M_X12_pay (d + 1) post σ kk nn 11 [some (xR (some (13, 0))), some (xI v1), some (xI v2), some (xI v3), some (xL v4), none, some (xI (v6 + 1))] [])) ∧ ((¬ v3 < v6 → AMet G l M_X12_isRecord d 0 0 [xR (some (13, 0)), xI v1, xI v6] σ (retI (fun x2 σ1 => (St σ1 ∧ (((x2 = 0 → AW G l M_X12_pay (d + 1) post σ1 kk nn 11 [some (xR (some (13, 0))), some (xI v1), some (xI v2), some (xI v3), some (xL v4), none, some (xI (v6 + 1))] [])) ∧ ((¬ x2 = 0 → (vp_in ((40 * v6) + v1) 2400 ∧ (vp_in ((40 * v6) + v1) 2400 ∧ (vp_in ((40 * v6) + v1) 2400 ∧ (AMet G l M_X12_worth d 0 0 [xR (some (13, 0)), xI (gA σ1 26 32 ((40 * v6) + v1).toNatClampNeg), xI (gA σ1 26 28 ((40 * v6) + v1).toNatClampNeg), xI (gA σ1 26 31 ((40 * v6) + v1).toNatClampNeg)] σ1 (retI (fun x4 σ3 => AW G l M_X12_pay (d + 1) post σ3 kk nn 11 [some (xR (some (13, 0))), some (xI v1), some (xI v2), some (xI v3), some (xL (v4 + x4.toInt64)), none, some (xI (v6 + 1))] [])))))))))))))))))))))) : AW G l M_X12_pay (d + 1) post σ kk nn 11 [some (xR (some (13, 0))), some (xI v1), some (xI v2), some (xI v3), some (xL v4), none, some (xI v6)] [] := by
  refine aw_iload (i := 6) d_X12_pay_11 rfl ?_
  refine aw_aload_n (i := 0) d_X12_pay_13 rfl rfl ?_
  refine aw_getI fl_RX12_304 rfl d_X12_pay_14 ?_
  refine aw_icmp_ge (tgt := 94) d_X12_pay_17 (by decide) (fun c => ?_) (fun c => ?_)
  · have h := h.1 c
    refine aw_lload (i := 4) d_X12_pay_94 rfl ?_
    exact aw_lret d_X12_pay_96 rfl h
  · have h := h.2 c
    refine aw_iload (i := 6) d_X12_pay_20 rfl ?_
    refine aw_iload_n (i := 2) d_X12_pay_22 rfl rfl ?_
    refine aw_icmp_lt (tgt := 88) d_X12_pay_23 (by decide) (fun c => ?_) (fun c => ?_)
    · have h := h.1 c
      refine aw_iinc (i := 6) (v := v6 + 1) d_X12_pay_88 rfl rfl (by decide) ?_
      refine aw_goto (tgt := 11) d_X12_pay_91 (by decide) ?_
      exact h
    · have h := h.2 c
      refine aw_iload (i := 6) d_X12_pay_26 rfl ?_
      refine aw_iload_n (i := 3) d_X12_pay_28 rfl rfl ?_
      refine aw_icmp_gt (tgt := 88) d_X12_pay_29 (by decide) (fun c => ?_) (fun c => ?_)
      · have h := h.1 c
        refine aw_iinc (i := 6) (v := v6 + 1) d_X12_pay_88 rfl rfl (by decide) ?_
        refine aw_goto (tgt := 11) d_X12_pay_91 (by decide) ?_
        exact h
      · have h := h.2 c
        refine aw_aload_n (i := 0) d_X12_pay_32 rfl rfl ?_
        refine aw_iload_n (i := 1) d_X12_pay_33 rfl rfl ?_
        refine aw_iload (i := 6) d_X12_pay_34 rfl ?_
        refine aw_callV0 (as := [xI v1, xI v6]) mw_X12_isRecord (by decide +kernel) ml_RX12_378 rfl d_X12_pay_36 rfl (Nat.le_of_ble_eq_true rfl) (AMet.mono h (aw_toI (fun x2 σ1 h => ?_)))
        obtain ⟨hS1, h⟩ := h
        refine aw_if_eq (tgt := 88) d_X12_pay_39 (by decide) (fun c => ?_) (fun c => ?_)
        · have h := h.1 c
          refine aw_iinc (i := 6) (v := v6 + 1) d_X12_pay_88 rfl rfl (by decide) ?_
          refine aw_goto (tgt := 11) d_X12_pay_91 (by decide) ?_
          exact h
        · have h := h.2 c
          refine aw_lload (i := 4) d_X12_pay_42 rfl ?_
          refine aw_aload_n (i := 0) d_X12_pay_44 rfl rfl ?_
          refine aw_aload_n (i := 0) d_X12_pay_45 rfl rfl ?_
          refine aw_getRv fl_RX12_133 rfl (r := some (26, 32)) (St.get hS1 13 61 0 26 32 (by decide)) d_X12_pay_46 ?_
          refine aw_bipush (x := 40) d_X12_pay_49 (by decide) ?_
          refine aw_iload (i := 6) d_X12_pay_51 rfl ?_
          refine aw_imul d_X12_pay_53 ?_
          refine aw_iload_n (i := 1) d_X12_pay_54 rfl rfl ?_
          refine aw_iadd d_X12_pay_55 ?_
          obtain ⟨hq, h⟩ := h
          refine aw_iald d_X12_pay_56 (by decide) (vp_of (St.len hS1 26 32 2400 (by decide)) hq) ?_
          refine aw_aload_n (i := 0) d_X12_pay_57 rfl rfl ?_
          refine aw_getRv fl_RX12_121 rfl (r := some (26, 28)) (St.get hS1 13 57 0 26 28 (by decide)) d_X12_pay_58 ?_
          refine aw_bipush (x := 40) d_X12_pay_61 (by decide) ?_
          refine aw_iload (i := 6) d_X12_pay_63 rfl ?_
          refine aw_imul d_X12_pay_65 ?_
          refine aw_iload_n (i := 1) d_X12_pay_66 rfl rfl ?_
          refine aw_iadd d_X12_pay_67 ?_
          obtain ⟨hq, h⟩ := h
          refine aw_iald d_X12_pay_68 (by decide) (vp_of (St.len hS1 26 28 2400 (by decide)) hq) ?_
          refine aw_aload_n (i := 0) d_X12_pay_69 rfl rfl ?_
          refine aw_getRv fl_RX12_130 rfl (r := some (26, 31)) (St.get hS1 13 60 0 26 31 (by decide)) d_X12_pay_70 ?_
          refine aw_bipush (x := 40) d_X12_pay_73 (by decide) ?_
          refine aw_iload (i := 6) d_X12_pay_75 rfl ?_
          refine aw_imul d_X12_pay_77 ?_
          refine aw_iload_n (i := 1) d_X12_pay_78 rfl rfl ?_
          refine aw_iadd d_X12_pay_79 ?_
          obtain ⟨hq, h⟩ := h
          refine aw_iald d_X12_pay_80 (by decide) (vp_of (St.len hS1 26 31 2400 (by decide)) hq) ?_
          refine aw_callV0 (as := [xI (gA σ1 26 32 ((40 * v6) + v1).toNatClampNeg), xI (gA σ1 26 28 ((40 * v6) + v1).toNatClampNeg), xI (gA σ1 26 31 ((40 * v6) + v1).toNatClampNeg)]) mw_X12_worth (by decide +kernel) ml_RX12_381 rfl d_X12_pay_81 rfl (Nat.le_of_ble_eq_true rfl) (AMet.mono h (aw_toI (fun x4 σ3 h => ?_)))
          refine aw_i2l d_X12_pay_84 rfl ?_
          refine aw_ladd d_X12_pay_85 ?_
          refine aw_lstore (i := 4) d_X12_pay_86 (by decide) ?_
          refine aw_iinc (i := 6) (v := v6 + 1) d_X12_pay_88 rfl rfl (by decide) ?_
          refine aw_goto (tgt := 11) d_X12_pay_91 (by decide) ?_
          exact h
set_option maxRecDepth 20000 in
theorem vc_X12_retake {G : GG} {l : Launch} {d : Nat} {post : Option AVal → AS → Prop} {σ : AS} {kk nn : Nat} {a1 : Int32} {a2 : Int32} (h : AMet G l M_X12_within d 0 0 [xI a1, xI 0, xI 19] (sI σ 13 0 0 0) (retI (fun x2 σ1 => (((x2 = 0 → post (some (xI (-1))) σ1)) ∧ ((¬ x2 = 0 → AMet G l M_X12_within d 0 0 [xI a2, xI 0, xI 1439] σ1 (retI (fun x4 σ3 => (((¬ x4 = 0 → AW G l M_X12_retake (d + 1) post (sI σ3 13 67 0 0) kk nn 35 [some (xR (some (13, 0))), some (xI a1), some (xI a2), some (xI 0)] [])) ∧ ((x4 = 0 → post (some (xI (-1))) σ3))))))))))) : AW G l M_X12_retake (d + 1) post σ kk nn 0 [some (xR (some (13, 0))), some (xI a1), some (xI a2), none] [] := by
  refine aw_aload_n (i := 0) d_X12_retake_0 rfl rfl ?_
  refine aw_iconst (x := 0) d_X12_retake_1 (by decide) ?_
  refine aw_putI fl_RX12_1 (by decide) (fin_no (r := (RX12, TX12, 68)) rfl rfl) d_X12_retake_2 rfl ⟨rfl, rfl⟩ ?_
  refine aw_iload_n (i := 1) d_X12_retake_5 rfl rfl ?_
  refine aw_iconst (x := 0) d_X12_retake_6 (by decide) ?_
  refine aw_bipush (x := 19) d_X12_retake_7 (by decide) ?_
  refine aw_callS0 (as := [xI a1, xI 0, xI 19]) mw_X12_within ml_RX12_154 rfl d_X12_retake_9 rfl (Nat.le_of_ble_eq_true rfl) (AMet.mono h (aw_toI (fun x2 σ1 h => ?_)))
  refine aw_if_eq (tgt := 26) d_X12_retake_12 (by decide) (fun c => ?_) (fun c => ?_)
  · have h := h.1 c
    refine aw_iconst (x := -1) d_X12_retake_26 (by decide) ?_
    exact aw_ret d_X12_retake_27 rfl rfl h
  · have h := h.2 c
    refine aw_iload_n (i := 2) d_X12_retake_15 rfl rfl ?_
    refine aw_iconst (x := 0) d_X12_retake_16 (by decide) ?_
    refine aw_sipush (x := 1439) d_X12_retake_17 (by decide) ?_
    refine aw_callS0 (as := [xI a2, xI 0, xI 1439]) mw_X12_within ml_RX12_154 rfl d_X12_retake_20 rfl (Nat.le_of_ble_eq_true rfl) (AMet.mono h (aw_toI (fun x4 σ3 h => ?_)))
    refine aw_if_ne (tgt := 28) d_X12_retake_23 (by decide) (fun c => ?_) (fun c => ?_)
    · have h := h.1 c
      refine aw_aload_n (i := 0) d_X12_retake_28 rfl rfl ?_
      refine aw_iconst (x := 0) d_X12_retake_29 (by decide) ?_
      refine aw_putI fl_RX12_384 (by decide) (fin_no (r := (RX12, TX12, 68)) rfl rfl) d_X12_retake_30 rfl ⟨rfl, rfl⟩ ?_
      refine aw_iconst (x := 0) d_X12_retake_33 (by decide) ?_
      refine aw_istore_n (i := 3) d_X12_retake_34 rfl (by decide) ?_
      exact h
    · have h := h.2 c
      refine aw_iconst (x := -1) d_X12_retake_26 (by decide) ?_
      exact aw_ret d_X12_retake_27 rfl rfl h
set_option maxRecDepth 20000 in
theorem vc_X12_retake_35 {G : GG} {l : Launch} {d : Nat} {post : Option AVal → AS → Prop} {σ : AS} {kk nn : Nat} {v1 : Int32} {v2 : Int32} {v3 : Int32} (h : ((((gI σ 13 1 0) ≤ v3 → post (some (xI (gI σ 13 67 0))) σ)) ∧ ((¬ (gI σ 13 1 0) ≤ v3 → AMet G l M_X12_times d 0 0 [xR (some (13, 0)), xI v3, xI v1, xI (gI σ 13 12 0)] σ (retI (fun x6 σ5 => (St σ5 ∧ (((x6 = 0 → AW G l M_X12_retake (d + 1) post σ5 kk nn 35 [some (xR (some (13, 0))), some (xI v1), some (xI v2), some (xI (v3 + 1))] [])) ∧ ((¬ x6 = 0 → (vp_in v3 40 ∧ (((¬ (gA σ5 21 0 v3.toNatClampNeg) = 0 → (vp_in (gI σ5 13 67 0) 40 ∧ AW G l M_X12_retake (d + 1) post (sI (sA σ5 26 36 (gI σ5 13 67 0).toNatClampNeg v3) 13 67 0 ((gI σ5 13 67 0) + 1)) kk nn 35 [some (xR (some (13, 0))), some (xI v1), some (xI v2), some (xI (v3 + 1))] []))) ∧ (((gA σ5 21 0 v3.toNatClampNeg) = 0 → (vp_in v3 40 ∧ (((((1440 * (gI σ5 13 2 0)) + v2) < (gA σ5 26 6 v3.toNatClampNeg) → (vp_in (gI σ5 13 67 0) 40 ∧ AW G l M_X12_retake (d + 1) post (sI (sA σ5 26 36 (gI σ5 13 67 0).toNatClampNeg v3) 13 67 0 ((gI σ5 13 67 0) + 1)) kk nn 35 [some (xR (some (13, 0))), some (xI v1), some (xI v2), some (xI (v3 + 1))] []))) ∧ ((¬ ((1440 * (gI σ5 13 2 0)) + v2) < (gA σ5 26 6 v3.toNatClampNeg) → AW G l M_X12_retake (d + 1) post σ5 kk nn 35 [some (xR (some (13, 0))), some (xI v1), some (xI v2), some (xI (v3 + 1))] [])))))))))))))))))) : AW G l M_X12_retake (d + 1) post σ kk nn 35 [some (xR (some (13, 0))), some (xI v1), some (xI v2), some (xI v3)] [] := by
  refine aw_iload_n (i := 3) d_X12_retake_35 rfl rfl ?_
  refine aw_aload_n (i := 0) d_X12_retake_36 rfl rfl ?_
  refine aw_getI fl_RX12_151 rfl d_X12_retake_37 ?_
  refine aw_icmp_ge (tgt := 113) d_X12_retake_40 (by decide) (fun c => ?_) (fun c => ?_)
  · have h := h.1 c
    refine aw_aload_n (i := 0) d_X12_retake_113 rfl rfl ?_
    refine aw_getI fl_RX12_384 rfl d_X12_retake_114 ?_
    exact aw_ret d_X12_retake_117 rfl rfl h
  · have h := h.2 c
    refine aw_aload_n (i := 0) d_X12_retake_43 rfl rfl ?_
    refine aw_iload_n (i := 3) d_X12_retake_44 rfl rfl ?_
    refine aw_iload_n (i := 1) d_X12_retake_45 rfl rfl ?_
    refine aw_aload_n (i := 0) d_X12_retake_46 rfl rfl ?_
    refine aw_getI fl_RX12_163 rfl d_X12_retake_47 ?_
    refine aw_callV0 (as := [xI v3, xI v1, xI (gI σ 13 12 0)]) mw_X12_times (by decide +kernel) ml_RX12_173 rfl d_X12_retake_50 rfl (Nat.le_of_ble_eq_true rfl) (AMet.mono h (aw_toI (fun x6 σ5 h => ?_)))
    obtain ⟨hS5, h⟩ := h
    refine aw_if_eq (tgt := 107) d_X12_retake_53 (by decide) (fun c => ?_) (fun c => ?_)
    · have h := h.1 c
      refine aw_iinc (i := 3) (v := v3 + 1) d_X12_retake_107 rfl rfl (by decide) ?_
      refine aw_goto (tgt := 35) d_X12_retake_110 (by decide) ?_
      exact h
    · have h := h.2 c
      refine aw_aload_n (i := 0) d_X12_retake_56 rfl rfl ?_
      refine aw_getRv fl_RX12_29 rfl (r := some (21, 0)) (St.get hS5 13 8 0 21 0 (by decide)) d_X12_retake_57 ?_
      refine aw_iload_n (i := 3) d_X12_retake_60 rfl rfl ?_
      obtain ⟨hq, h⟩ := h
      refine aw_zald d_X12_retake_61 (vp_of (St.len hS5 21 0 40 (by decide)) hq) ?_
      refine aw_if_ne (tgt := 87) d_X12_retake_62 (by decide) (fun c => ?_) (fun c => ?_)
      · have h := h.1 c
        refine aw_aload_n (i := 0) d_X12_retake_87 rfl rfl ?_
        refine aw_getRv fl_RX12_148 rfl (r := some (26, 36)) (St.get hS5 13 66 0 26 36 (by decide)) d_X12_retake_88 ?_
        refine aw_aload_n (i := 0) d_X12_retake_91 rfl rfl ?_
        refine aw_getI fl_RX12_384 rfl d_X12_retake_92 ?_
        refine aw_iload_n (i := 3) d_X12_retake_95 rfl rfl ?_
        obtain ⟨hq, h⟩ := h
        refine aw_iast d_X12_retake_96 (by decide) (vp_of (St.len hS5 26 36 40 (by decide)) hq) ?_
        refine aw_aload_n (i := 0) d_X12_retake_97 rfl rfl ?_
        refine aw_dupR d_X12_retake_98 ?_
        refine aw_getIv fl_RX12_384 rfl (x := gI σ5 13 67 0) rfl d_X12_retake_99 ?_
        refine aw_iconst (x := 1) d_X12_retake_102 (by decide) ?_
        refine aw_iadd d_X12_retake_103 ?_
        refine aw_putI fl_RX12_384 (by decide) (fin_no (r := (RX12, TX12, 68)) rfl rfl) d_X12_retake_104 rfl ⟨rfl, rfl⟩ ?_
        refine aw_iinc (i := 3) (v := v3 + 1) d_X12_retake_107 rfl rfl (by decide) ?_
        refine aw_goto (tgt := 35) d_X12_retake_110 (by decide) ?_
        exact h
      · have h := h.2 c
        refine aw_aload_n (i := 0) d_X12_retake_65 rfl rfl ?_
        refine aw_getRv fl_RX12_36 rfl (r := some (26, 6)) (St.get hS5 13 10 0 26 6 (by decide)) d_X12_retake_66 ?_
        refine aw_iload_n (i := 3) d_X12_retake_69 rfl rfl ?_
        obtain ⟨hq, h⟩ := h
        refine aw_iald d_X12_retake_70 (by decide) (vp_of (St.len hS5 26 6 40 (by decide)) hq) ?_
        refine aw_sipush (x := 1440) d_X12_retake_71 (by decide) ?_
        refine aw_aload_n (i := 0) d_X12_retake_74 rfl rfl ?_
        refine aw_getI fl_RX12_304 rfl d_X12_retake_75 ?_
        refine aw_imul d_X12_retake_78 ?_
        refine aw_iload_n (i := 2) d_X12_retake_79 rfl rfl ?_
        refine aw_iadd d_X12_retake_80 ?_
        refine aw_icmp_gt (tgt := 87) d_X12_retake_81 (by decide) (fun c => ?_) (fun c => ?_)
        · have h := h.1 c
          refine aw_aload_n (i := 0) d_X12_retake_87 rfl rfl ?_
          refine aw_getRv fl_RX12_148 rfl (r := some (26, 36)) (St.get hS5 13 66 0 26 36 (by decide)) d_X12_retake_88 ?_
          refine aw_aload_n (i := 0) d_X12_retake_91 rfl rfl ?_
          refine aw_getI fl_RX12_384 rfl d_X12_retake_92 ?_
          refine aw_iload_n (i := 3) d_X12_retake_95 rfl rfl ?_
          obtain ⟨hq, h⟩ := h
          refine aw_iast d_X12_retake_96 (by decide) (vp_of (St.len hS5 26 36 40 (by decide)) hq) ?_
          refine aw_aload_n (i := 0) d_X12_retake_97 rfl rfl ?_
          refine aw_dupR d_X12_retake_98 ?_
          refine aw_getIv fl_RX12_384 rfl (x := gI σ5 13 67 0) rfl d_X12_retake_99 ?_
          refine aw_iconst (x := 1) d_X12_retake_102 (by decide) ?_
          refine aw_iadd d_X12_retake_103 ?_
          refine aw_putI fl_RX12_384 (by decide) (fin_no (r := (RX12, TX12, 68)) rfl rfl) d_X12_retake_104 rfl ⟨rfl, rfl⟩ ?_
          refine aw_iinc (i := 3) (v := v3 + 1) d_X12_retake_107 rfl rfl (by decide) ?_
          refine aw_goto (tgt := 35) d_X12_retake_110 (by decide) ?_
          exact h
        · have h := h.2 c
          refine aw_goto (tgt := 107) d_X12_retake_84 (by decide) ?_
          refine aw_iinc (i := 3) (v := v3 + 1) d_X12_retake_107 rfl rfl (by decide) ?_
          refine aw_goto (tgt := 35) d_X12_retake_110 (by decide) ?_
          exact h
set_option maxRecDepth 20000 in
theorem vc_X12_lacks {G : GG} {l : Launch} {d : Nat} {post : Option AVal → AS → Prop} {σ : AS} {kk nn : Nat} {a1 : Int32} (hS : St σ) (h : (((a1 < 0 → post (some (xI (-1))) (sI σ 13 0 0 0))) ∧ ((¬ a1 < 0 → ((((gI σ 13 67 0) ≤ a1 → post (some (xI (-1))) (sI σ 13 0 0 0))) ∧ ((¬ (gI σ 13 67 0) ≤ a1 → (vp_in a1 40 ∧ post (some (xI (gA (sI σ 13 0 0 0) 26 36 a1.toNatClampNeg))) (sI σ 13 0 0 0))))))))) : AW G l M_X12_lacks d post σ kk nn 0 [some (xR (some (13, 0))), some (xI a1)] [] := by
  refine aw_aload_n (i := 0) d_X12_lacks_0 rfl rfl ?_
  refine aw_iconst (x := 0) d_X12_lacks_1 (by decide) ?_
  refine aw_putI fl_RX12_1 (by decide) (fin_no (r := (RX12, TX12, 68)) rfl rfl) d_X12_lacks_2 rfl ⟨rfl, rfl⟩ ?_
  refine aw_iload_n (i := 1) d_X12_lacks_5 rfl rfl ?_
  refine aw_if_lt (tgt := 26) d_X12_lacks_6 (by decide) (fun c => ?_) (fun c => ?_)
  · have h := h.1 c
    refine aw_iconst (x := -1) d_X12_lacks_26 (by decide) ?_
    exact aw_ret d_X12_lacks_27 rfl rfl h
  · have h := h.2 c
    refine aw_iload_n (i := 1) d_X12_lacks_9 rfl rfl ?_
    refine aw_aload_n (i := 0) d_X12_lacks_10 rfl rfl ?_
    refine aw_getIv fl_RX12_384 rfl (x := gI σ 13 67 0) rfl d_X12_lacks_11 ?_
    refine aw_icmp_ge (tgt := 26) d_X12_lacks_14 (by decide) (fun c => ?_) (fun c => ?_)
    · have h := h.1 c
      refine aw_iconst (x := -1) d_X12_lacks_26 (by decide) ?_
      exact aw_ret d_X12_lacks_27 rfl rfl h
    · have h := h.2 c
      refine aw_aload_n (i := 0) d_X12_lacks_17 rfl rfl ?_
      refine aw_getRv fl_RX12_148 rfl (r := some (26, 36)) (St.get (St.sI hS) 13 66 0 26 36 (by decide)) d_X12_lacks_18 ?_
      refine aw_iload_n (i := 1) d_X12_lacks_21 rfl rfl ?_
      obtain ⟨hq, h⟩ := h
      refine aw_iald d_X12_lacks_22 (by decide) (vp_of (St.len (St.sI hS) 26 36 40 (by decide)) hq) ?_
      refine aw_goto (tgt := 27) d_X12_lacks_23 (by decide) ?_
      exact aw_ret d_X12_lacks_27 rfl rfl h
set_option maxRecDepth 20000 in
theorem vc_X12_buses {G : GG} {l : Launch} {d : Nat} {post : Option AVal → AS → Prop} {σ : AS} {kk nn : Nat} {a1 : Int32} {a2 : Int32} (h : AMet G l M_X12_within d 0 0 [xI a1, xI 0, xI 3] (sI σ 13 0 0 0) (retI (fun x2 σ1 => (((x2 = 0 → post (some (xI (-1))) σ1)) ∧ ((¬ x2 = 0 → AMet G l M_X12_within d 0 0 [xI a2, xI 1, xI 100] σ1 (retI (fun x4 σ3 => (((¬ x4 = 0 → AW G l M_X12_buses (d + 1) post σ3 kk nn 31 [some (xR (some (13, 0))), some (xI a1), some (xI a2), some (xI 0), some (xI 0)] [])) ∧ ((x4 = 0 → post (some (xI (-1))) σ3))))))))))) : AW G l M_X12_buses (d + 1) post σ kk nn 0 [some (xR (some (13, 0))), some (xI a1), some (xI a2), none, none] [] := by
  refine aw_aload_n (i := 0) d_X12_buses_0 rfl rfl ?_
  refine aw_iconst (x := 0) d_X12_buses_1 (by decide) ?_
  refine aw_putI fl_RX12_1 (by decide) (fin_no (r := (RX12, TX12, 68)) rfl rfl) d_X12_buses_2 rfl ⟨rfl, rfl⟩ ?_
  refine aw_iload_n (i := 1) d_X12_buses_5 rfl rfl ?_
  refine aw_iconst (x := 0) d_X12_buses_6 (by decide) ?_
  refine aw_iconst (x := 3) d_X12_buses_7 (by decide) ?_
  refine aw_callS0 (as := [xI a1, xI 0, xI 3]) mw_X12_within ml_RX12_154 rfl d_X12_buses_8 rfl (Nat.le_of_ble_eq_true rfl) (AMet.mono h (aw_toI (fun x2 σ1 h => ?_)))
  refine aw_if_eq (tgt := 24) d_X12_buses_11 (by decide) (fun c => ?_) (fun c => ?_)
  · have h := h.1 c
    refine aw_iconst (x := -1) d_X12_buses_24 (by decide) ?_
    exact aw_ret d_X12_buses_25 rfl rfl h
  · have h := h.2 c
    refine aw_iload_n (i := 2) d_X12_buses_14 rfl rfl ?_
    refine aw_iconst (x := 1) d_X12_buses_15 (by decide) ?_
    refine aw_bipush (x := 100) d_X12_buses_16 (by decide) ?_
    refine aw_callS0 (as := [xI a2, xI 1, xI 100]) mw_X12_within ml_RX12_154 rfl d_X12_buses_18 rfl (Nat.le_of_ble_eq_true rfl) (AMet.mono h (aw_toI (fun x4 σ3 h => ?_)))
    refine aw_if_ne (tgt := 26) d_X12_buses_21 (by decide) (fun c => ?_) (fun c => ?_)
    · have h := h.1 c
      refine aw_iconst (x := 0) d_X12_buses_26 (by decide) ?_
      refine aw_istore_n (i := 3) d_X12_buses_27 rfl (by decide) ?_
      refine aw_iconst (x := 0) d_X12_buses_28 (by decide) ?_
      refine aw_istore (i := 4) d_X12_buses_29 (by decide) ?_
      exact h
    · have h := h.2 c
      refine aw_iconst (x := -1) d_X12_buses_24 (by decide) ?_
      exact aw_ret d_X12_buses_25 rfl rfl h
set_option maxRecDepth 20000 in
theorem vc_X12_buses_31 {G : GG} {l : Launch} {d : Nat} {post : Option AVal → AS → Prop} {σ : AS} {kk nn : Nat} {v1 : Int32} {v2 : Int32} {v3 : Int32} {v4 : Int32} (hS : St σ) (h : ((((gI σ 13 1 0) ≤ v4 → (¬ v2 = 0 ∧ post (some (xI (((v3 + v2) - 1) / v2))) σ))) ∧ ((¬ (gI σ 13 1 0) ≤ v4 → (vp_in v4 40 ∧ ((((gA σ 26 7 v4.toNatClampNeg) = (-1) → AW G l M_X12_buses (d + 1) post σ kk nn 31 [some (xR (some (13, 0))), some (xI v1), some (xI v2), some (xI v3), some (xI (v4 + 1))] [])) ∧ ((¬ (gA σ 26 7 v4.toNatClampNeg) = (-1) → (vp_in v4 40 ∧ (((¬ (gA σ 26 3 v4.toNatClampNeg) = v1 → AW G l M_X12_buses (d + 1) post σ kk nn 31 [some (xR (some (13, 0))), some (xI v1), some (xI v2), some (xI v3), some (xI (v4 + 1))] [])) ∧ (((gA σ 26 3 v4.toNatClampNeg) = v1 → AW G l M_X12_buses (d + 1) post σ kk nn 31 [some (xR (some (13, 0))), some (xI v1), some (xI v2), some (xI (v3 + 1)), some (xI (v4 + 1))] [])))))))))))) : AW G l M_X12_buses (d + 1) post σ kk nn 31 [some (xR (some (13, 0))), some (xI v1), some (xI v2), some (xI v3), some (xI v4)] [] := by
  refine aw_iload (i := 4) d_X12_buses_31 rfl ?_
  refine aw_aload_n (i := 0) d_X12_buses_33 rfl rfl ?_
  refine aw_getI fl_RX12_151 rfl d_X12_buses_34 ?_
  refine aw_icmp_ge (tgt := 71) d_X12_buses_37 (by decide) (fun c => ?_) (fun c => ?_)
  · have h := h.1 c
    refine aw_iload_n (i := 3) d_X12_buses_71 rfl rfl ?_
    refine aw_iload_n (i := 2) d_X12_buses_72 rfl rfl ?_
    refine aw_iadd d_X12_buses_73 ?_
    refine aw_iconst (x := 1) d_X12_buses_74 (by decide) ?_
    refine aw_isub d_X12_buses_75 ?_
    refine aw_iload_n (i := 2) d_X12_buses_76 rfl rfl ?_
    obtain ⟨hq, h⟩ := h
    refine aw_idiv d_X12_buses_77 hq ?_
    exact aw_ret d_X12_buses_78 rfl rfl h
  · have h := h.2 c
    refine aw_aload_n (i := 0) d_X12_buses_40 rfl rfl ?_
    refine aw_getRv fl_RX12_39 rfl (r := some (26, 7)) (St.get hS 13 11 0 26 7 (by decide)) d_X12_buses_41 ?_
    refine aw_iload (i := 4) d_X12_buses_44 rfl ?_
    obtain ⟨hq, h⟩ := h
    refine aw_iald d_X12_buses_46 (by decide) (vp_of (St.len hS 26 7 40 (by decide)) hq) ?_
    refine aw_iconst (x := -1) d_X12_buses_47 (by decide) ?_
    refine aw_icmp_eq (tgt := 65) d_X12_buses_48 (by decide) (fun c => ?_) (fun c => ?_)
    · have h := h.1 c
      refine aw_iinc (i := 4) (v := v4 + 1) d_X12_buses_65 rfl rfl (by decide) ?_
      refine aw_goto (tgt := 31) d_X12_buses_68 (by decide) ?_
      exact h
    · have h := h.2 c
      refine aw_aload_n (i := 0) d_X12_buses_51 rfl rfl ?_
      refine aw_getRv fl_RX12_23 rfl (r := some (26, 3)) (St.get hS 13 6 0 26 3 (by decide)) d_X12_buses_52 ?_
      refine aw_iload (i := 4) d_X12_buses_55 rfl ?_
      obtain ⟨hq, h⟩ := h
      refine aw_iald d_X12_buses_57 (by decide) (vp_of (St.len hS 26 3 40 (by decide)) hq) ?_
      refine aw_iload_n (i := 1) d_X12_buses_58 rfl rfl ?_
      refine aw_icmp_ne (tgt := 65) d_X12_buses_59 (by decide) (fun c => ?_) (fun c => ?_)
      · have h := h.1 c
        refine aw_iinc (i := 4) (v := v4 + 1) d_X12_buses_65 rfl rfl (by decide) ?_
        refine aw_goto (tgt := 31) d_X12_buses_68 (by decide) ?_
        exact h
      · have h := h.2 c
        refine aw_iinc (i := 3) (v := v3 + 1) d_X12_buses_62 rfl rfl (by decide) ?_
        refine aw_iinc (i := 4) (v := v4 + 1) d_X12_buses_65 rfl rfl (by decide) ?_
        refine aw_goto (tgt := 31) d_X12_buses_68 (by decide) ?_
        exact h
set_option maxRecDepth 20000 in
theorem vc_X12_allCalled {G : GG} {l : Launch} {d : Nat} {post : Option AVal → AS → Prop} {σ : AS} {kk nn : Nat}  (h : AW G l M_X12_allCalled d post σ kk nn 4 [some (xR (some (13, 0))), some (xI 0), some (xI 0)] []) : AW G l M_X12_allCalled d post σ kk nn 0 [some (xR (some (13, 0))), none, none] [] := by
  refine aw_iconst (x := 0) d_X12_allCalled_0 (by decide) ?_
  refine aw_istore_n (i := 1) d_X12_allCalled_1 rfl (by decide) ?_
  refine aw_iconst (x := 0) d_X12_allCalled_2 (by decide) ?_
  refine aw_istore_n (i := 2) d_X12_allCalled_3 rfl (by decide) ?_
  exact h
set_option maxRecDepth 20000 in
theorem vc_X12_allCalled_4 {G : GG} {l : Launch} {d : Nat} {post : Option AVal → AS → Prop} {σ : AS} {kk nn : Nat} {v1 : Int32} {v2 : Int32} (hS : St σ) (h : ((((gI σ 13 1 0) ≤ v2 → post (some (xI v1)) σ)) ∧ ((¬ (gI σ 13 1 0) ≤ v2 → (vp_in v2 40 ∧ ((((gA σ 26 7 v2.toNatClampNeg) = (-1) → AW G l M_X12_allCalled d post σ kk nn 4 [some (xR (some (13, 0))), some (xI v1), some (xI (v2 + 1))] [])) ∧ ((¬ (gA σ 26 7 v2.toNatClampNeg) = (-1) → AW G l M_X12_allCalled d post σ kk nn 4 [some (xR (some (13, 0))), some (xI (v1 + 1)), some (xI (v2 + 1))] [])))))))) : AW G l M_X12_allCalled d post σ kk nn 4 [some (xR (some (13, 0))), some (xI v1), some (xI v2)] [] := by
  refine aw_iload_n (i := 2) d_X12_allCalled_4 rfl rfl ?_
  refine aw_aload_n (i := 0) d_X12_allCalled_5 rfl rfl ?_
  refine aw_getI fl_RX12_151 rfl d_X12_allCalled_6 ?_
  refine aw_icmp_ge (tgt := 31) d_X12_allCalled_9 (by decide) (fun c => ?_) (fun c => ?_)
  · have h := h.1 c
    refine aw_iload_n (i := 1) d_X12_allCalled_31 rfl rfl ?_
    exact aw_ret d_X12_allCalled_32 rfl rfl h
  · have h := h.2 c
    refine aw_aload_n (i := 0) d_X12_allCalled_12 rfl rfl ?_
    refine aw_getRv fl_RX12_39 rfl (r := some (26, 7)) (St.get hS 13 11 0 26 7 (by decide)) d_X12_allCalled_13 ?_
    refine aw_iload_n (i := 2) d_X12_allCalled_16 rfl rfl ?_
    obtain ⟨hq, h⟩ := h
    refine aw_iald d_X12_allCalled_17 (by decide) (vp_of (St.len hS 26 7 40 (by decide)) hq) ?_
    refine aw_iconst (x := -1) d_X12_allCalled_18 (by decide) ?_
    refine aw_icmp_eq (tgt := 25) d_X12_allCalled_19 (by decide) (fun c => ?_) (fun c => ?_)
    · have h := h.1 c
      refine aw_iinc (i := 2) (v := v2 + 1) d_X12_allCalled_25 rfl rfl (by decide) ?_
      refine aw_goto (tgt := 4) d_X12_allCalled_28 (by decide) ?_
      exact h
    · have h := h.2 c
      refine aw_iinc (i := 1) (v := v1 + 1) d_X12_allCalled_22 rfl rfl (by decide) ?_
      refine aw_iinc (i := 2) (v := v2 + 1) d_X12_allCalled_25 rfl rfl (by decide) ?_
      refine aw_goto (tgt := 4) d_X12_allCalled_28 (by decide) ?_
      exact h
set_option maxRecDepth 20000 in
theorem vc_X12_count {G : GG} {l : Launch} {d : Nat} {post : Option AVal → AS → Prop} {σ : AS} {kk nn : Nat} {a1 : Int32} (h : (((a1 = 0 → post (some (xI (gI σ 13 1 0))) (sI σ 13 0 0 0))) ∧ ((a1 = 1 → post (some (xI (gI σ 13 29 0))) (sI σ 13 0 0 0))) ∧ ((a1 = 2 → post (some (xI (gI σ 13 49 0))) (sI σ 13 0 0 0))) ∧ ((a1 = 3 → post (some (xI (gI σ 13 12 0))) (sI σ 13 0 0 0))) ∧ ((a1 = 4 → post (some (xI (gI σ 13 2 0))) (sI σ 13 0 0 0))) ∧ ((a1 = 5 → AMet G l M_X12_allCalled d 0 0 [xR (some (13, 0))] (sI σ 13 0 0 0) (retI (fun x2 σ1 => post (some (xI x2)) σ1)))) ∧ ((a1 = 6 → post (some (xI (gI σ 13 17 0))) (sI σ 13 0 0 0))) ∧ ((a1 = 7 → post (some (xI (gI σ 13 55 0))) (sI σ 13 0 0 0))) ∧ (((a1.toInt < 0 ∨ 7 < a1.toInt) → post (some (xI (-1))) (sI σ 13 0 0 0))))) : AW G l M_X12_count (d + 1) post σ kk nn 0 [some (xR (some (13, 0))), some (xI a1)] [] := by
  refine aw_aload_n (i := 0) d_X12_count_0 rfl rfl ?_
  refine aw_iconst (x := 0) d_X12_count_1 (by decide) ?_
  refine aw_putI fl_RX12_1 (by decide) (fin_no (r := (RX12, TX12, 68)) rfl rfl) d_X12_count_2 rfl ⟨rfl, rfl⟩ ?_
  refine aw_iload_n (i := 1) d_X12_count_5 rfl rfl ?_
  by_cases c0 : a1 = 0
  · have c := c0
    have h := h.1 c
    refine aw_sw (k := 0) (off := 46) (tgt := 52) d_X12_count_6 c (by decide) (by decide) (by decide) (by decide) ?_
    refine aw_aload_n (i := 0) d_X12_count_52 rfl rfl ?_
    refine aw_getIv fl_RX12_151 rfl (x := gI σ 13 1 0) rfl d_X12_count_53 ?_
    exact aw_ret d_X12_count_56 rfl rfl h
  by_cases c1 : a1 = 1
  · have c := c1
    have h := h.2.1 c
    refine aw_sw (k := 1) (off := 51) (tgt := 57) d_X12_count_6 c (by decide) (by decide) (by decide) (by decide) ?_
    refine aw_aload_n (i := 0) d_X12_count_57 rfl rfl ?_
    refine aw_getIv fl_RX12_298 rfl (x := gI σ 13 29 0) rfl d_X12_count_58 ?_
    exact aw_ret d_X12_count_61 rfl rfl h
  by_cases c2 : a1 = 2
  · have c := c2
    have h := h.2.2.1 c
    refine aw_sw (k := 2) (off := 56) (tgt := 62) d_X12_count_6 c (by decide) (by decide) (by decide) (by decide) ?_
    refine aw_aload_n (i := 0) d_X12_count_62 rfl rfl ?_
    refine aw_getIv fl_RX12_345 rfl (x := gI σ 13 49 0) rfl d_X12_count_63 ?_
    exact aw_ret d_X12_count_66 rfl rfl h
  by_cases c3 : a1 = 3
  · have c := c3
    have h := h.2.2.2.1 c
    refine aw_sw (k := 3) (off := 61) (tgt := 67) d_X12_count_6 c (by decide) (by decide) (by decide) (by decide) ?_
    refine aw_aload_n (i := 0) d_X12_count_67 rfl rfl ?_
    refine aw_getIv fl_RX12_163 rfl (x := gI σ 13 12 0) rfl d_X12_count_68 ?_
    exact aw_ret d_X12_count_71 rfl rfl h
  by_cases c4 : a1 = 4
  · have c := c4
    have h := h.2.2.2.2.1 c
    refine aw_sw (k := 4) (off := 66) (tgt := 72) d_X12_count_6 c (by decide) (by decide) (by decide) (by decide) ?_
    refine aw_aload_n (i := 0) d_X12_count_72 rfl rfl ?_
    refine aw_getIv fl_RX12_304 rfl (x := gI σ 13 2 0) rfl d_X12_count_73 ?_
    exact aw_ret d_X12_count_76 rfl rfl h
  by_cases c5 : a1 = 5
  · have c := c5
    have h := h.2.2.2.2.2.1 c
    refine aw_sw (k := 5) (off := 71) (tgt := 77) d_X12_count_6 c (by decide) (by decide) (by decide) (by decide) ?_
    refine aw_aload_n (i := 0) d_X12_count_77 rfl rfl ?_
    refine aw_callV0 (as := []) mw_X12_allCalled (by decide +kernel) ml_RX12_387 rfl d_X12_count_78 rfl (Nat.le_of_ble_eq_true rfl) (AMet.mono h (aw_toI (fun x2 σ1 h => ?_)))
    exact aw_ret d_X12_count_81 rfl rfl h
  by_cases c6 : a1 = 6
  · have c := c6
    have h := h.2.2.2.2.2.2.1 c
    refine aw_sw (k := 6) (off := 76) (tgt := 82) d_X12_count_6 c (by decide) (by decide) (by decide) (by decide) ?_
    refine aw_aload_n (i := 0) d_X12_count_82 rfl rfl ?_
    refine aw_getIv fl_RX12_177 rfl (x := gI σ 13 17 0) rfl d_X12_count_83 ?_
    exact aw_ret d_X12_count_86 rfl rfl h
  by_cases c7 : a1 = 7
  · have c := c7
    have h := h.2.2.2.2.2.2.2.1 c
    refine aw_sw (k := 7) (off := 81) (tgt := 87) d_X12_count_6 c (by decide) (by decide) (by decide) (by decide) ?_
    refine aw_aload_n (i := 0) d_X12_count_87 rfl rfl ?_
    refine aw_getIv fl_RX12_375 rfl (x := gI σ 13 55 0) rfl d_X12_count_88 ?_
    exact aw_ret d_X12_count_91 rfl rfl h
  have c : a1.toInt < 0 ∨ 7 < a1.toInt := by
    have q0 : ¬ a1.toInt = 0 := fun e => c0 (i32_eq (e.trans (by decide)))
    have q1 : ¬ a1.toInt = 1 := fun e => c1 (i32_eq (e.trans (by decide)))
    have q2 : ¬ a1.toInt = 2 := fun e => c2 (i32_eq (e.trans (by decide)))
    have q3 : ¬ a1.toInt = 3 := fun e => c3 (i32_eq (e.trans (by decide)))
    have q4 : ¬ a1.toInt = 4 := fun e => c4 (i32_eq (e.trans (by decide)))
    have q5 : ¬ a1.toInt = 5 := fun e => c5 (i32_eq (e.trans (by decide)))
    have q6 : ¬ a1.toInt = 6 := fun e => c6 (i32_eq (e.trans (by decide)))
    have q7 : ¬ a1.toInt = 7 := fun e => c7 (i32_eq (e.trans (by decide)))
    omega
  have h := h.2.2.2.2.2.2.2.2 c
  refine aw_switchOut (tgt := 92) d_X12_count_6 c (by decide) ?_
  refine aw_iconst (x := -1) d_X12_count_92 (by decide) ?_
  exact aw_ret d_X12_count_93 rfl rfl h
