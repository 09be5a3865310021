set_option maxRecDepth 20000 in
theorem vc_X0_init {G : GG} {l : Launch} {d : Nat} {post : Option AVal → AS → Prop} {σ : AS} {kk nn : Nat} {i0 : Nat} {a1 : Int32} (h : (∃ kk1 nn2 : Nat, (kk = kk1 + 1 ∧ nn = nn2 + 3 ∧ (AMet G l M_Jx4a65c_init_da8c8 d 0 0 [xR (some (0, (cnt σ 0)))] (nO σ 0) (retV (fun σ3 => post none (sI (sR σ3 1 1 i0 (some (0, (cnt σ 0)))) 1 0 i0 a1))))))) : AW G l M_X0_init (d + 1) post σ kk nn 0 [some (xR (some (1, i0))), some (xI a1)] [] := by
  refine aw_aload_n (i := 0) d_X0_init_0 rfl rfl ?_
  refine aw_objInit oi_RX0_3 d_X0_init_1 (Nat.le_of_ble_eq_true rfl) ?_
  refine aw_aload_n (i := 0) d_X0_init_4 rfl rfl ?_
  obtain ⟨kk1, nn2, ek, en, h⟩ := h
  rw [ek, en]
  refine aw_new (c := 0) (n := 3) (r := (RJx4a65c, TJx4a65c, 3)) rfl rfl nw_RX0_9 d_X0_init_5 ?_
  refine aw_dupR d_X0_init_8 ?_
  refine aw_callI0 (as := []) mw_Jx4a65c_init_da8c8 rfl rfl ml_RX0_11 rfl d_X0_init_9 rfl (Nat.le_of_ble_eq_true rfl) (AMet.mono h (aw_toV (fun σ3 h => ?_)))
  refine aw_putR fl_RX0_12 (by decide) (fin_init (r := (RX0, TX0, 2)) rfl rfl rfl) d_X0_init_12 rfl (by decide) ?_
  refine aw_aload_n (i := 0) d_X0_init_15 rfl rfl ?_
  refine aw_iload_n (i := 1) d_X0_init_16 rfl rfl ?_
  refine aw_putI fl_RX0_18 (by decide) (fin_init (r := (RX0, TX0, 2)) rfl rfl rfl) d_X0_init_17 rfl ⟨rfl, rfl⟩ ?_
  exact aw_vret d_X0_init_20 rfl h
set_option maxRecDepth 20000 in
theorem vc_X0_readFrom {G : GG} {l : Launch} {d : Nat} {post : Option AVal → AS → Prop} {σ : AS} {kk nn : Nat} {i0 : Nat} {p1 : Nat} (h : AMet G l M_X9_begin d 0 0 [xR (some (10, p1))] σ (retV (fun σ1 => AW G l M_X0_readFrom (d + 1) post σ1 kk nn 6 [some (xR (some (1, i0))), some (xR (some (10, p1))), some (xI 0), none] []))) : AW G l M_X0_readFrom (d + 1) post σ kk nn 0 [some (xR (some (1, i0))), some (xR (some (10, p1))), none, none] [] := by
  refine aw_aload_n (i := 1) d_X0_readFrom_0 rfl rfl ?_
  refine aw_callV0 (as := []) mw_X9_begin (by decide +kernel) ml_RX0_22 rfl d_X0_readFrom_1 rfl (Nat.le_of_ble_eq_true rfl) (AMet.mono h (aw_toV (fun σ1 h => ?_)))
  refine aw_iconst (x := 0) d_X0_readFrom_4 (by decide) ?_
  refine aw_istore_n (i := 2) d_X0_readFrom_5 rfl (by decide) ?_
  exact h
set_option maxRecDepth 20000 in
theorem vc_X0_readFrom_6 {G : GG} {l : Launch} {d : Nat} {post : Option AVal → AS → Prop} {σ : AS} {kk nn : Nat} {v0 : Nat} {v1 : Nat} {v2 : Int32} (h : (((8 < v2 → post (some (xI 1)) σ)) ∧ ((¬ 8 < v2 → AMet G l M_X9_atEnd d 0 0 [xR (some (10, v1))] σ (retI (fun x3 σ2 => (((¬ x3 = 0 → post (some (xI 1)) σ2)) ∧ ((x3 = 0 → (∃ kk4 nn5 : Nat, (kk = kk4 + 1 ∧ nn = nn5 + 4 ∧ (AMet G l M_X8_kindAt d 0 0 [xR (some (10, v1))] (nO σ2 9) (retI (fun x7 σ6 => AMet G l M_X8_init d 0 0 [xR (some (9, (cnt σ2 9))), xI x7] σ6 (retV (fun σ8 => (((¬ (gI σ8 9 0 (cnt σ2 9)) = (-1) → (((¬ v2 = 8 → AMet G l M_X9_advance d 0 0 [xR (some (10, v1))] σ8 (retV (fun σ9 => AMet G l M_X8_readNumbers d 0 0 [xR (some (9, (cnt σ2 9))), xR (some (10, v1))] σ9 (retI (fun x11 σ10 => (((x11 = 0 → post (some (xI 0)) σ10)) ∧ ((¬ x11 = 0 → AMet G l M_X9_passSign d 0 0 [xR (some (10, v1)), xI 59] σ10 (retI (fun x13 σ12 => (((¬ x13 = 0 → (∃ j14 : Nat, ((gR σ12 1 1 v0) = some (0, j14) ∧ ((∃ mc18 ms19 kk16 nn17 : Nat, (kk4 = kk16 + mc18 ∧ nn5 = nn17 + ms19 ∧ (AMet G l M_Jx4a65c_add_9ea2d d mc18 ms19 [xR (some (0, j14)), xR (some (9, (cnt σ2 9)))] σ12 (retI (fun x20 σ15 => AW G l M_X0_readFrom (d + 1) post σ15 kk16 nn17 6 [some (xR (some (1, v0))), some (xR (some (10, v1))), some (xI (v2 + 1)), none] [])))))))))) ∧ ((x13 = 0 → post (some (xI 0)) σ12)))))))))))))) ∧ ((v2 = 8 → AMet G l M_X9_fail d 0 0 [xR (some (10, v1)), xI 2] σ8 (retI (fun x22 σ21 => (narrow .boolean (.int x22) = .int x22 ∧ post (some (xI x22)) σ21)))))))) ∧ (((gI σ8 9 0 (cnt σ2 9)) = (-1) → AMet G l M_X9_fail d 0 0 [xR (some (10, v1)), xI 1] σ8 (retI (fun x24 σ23 => (narrow .boolean (.int x24) = .int x24 ∧ post (some (xI x24)) σ23)))))))))))))))))))))) : AW G l M_X0_readFrom (d + 1) post σ kk nn 6 [some (xR (some (1, v0))), some (xR (some (10, v1))), some (xI v2), none] [] := by
  refine aw_iload_n (i := 2) d_X0_readFrom_6 rfl rfl ?_
  refine aw_bipush (x := 8) d_X0_readFrom_7 (by decide) ?_
  refine aw_icmp_gt (tgt := 95) d_X0_readFrom_9 (by decide) (fun c => ?_) (fun c => ?_)
  · have h := h.1 c
    refine aw_iconst (x := 1) d_X0_readFrom_95 (by decide) ?_
    exact aw_ret d_X0_readFrom_96 rfl (by decide) h
  · have h := h.2 c
    refine aw_aload_n (i := 1) d_X0_readFrom_12 rfl rfl ?_
    refine aw_callV0 (as := []) mw_X9_atEnd (by decide +kernel) ml_RX0_27 rfl d_X0_readFrom_13 rfl (Nat.le_of_ble_eq_true rfl) (AMet.mono h (aw_toI (fun x3 σ2 h => ?_)))
    refine aw_if_ne (tgt := 95) d_X0_readFrom_16 (by decide) (fun c => ?_) (fun c => ?_)
    · have h := h.1 c
      refine aw_iconst (x := 1) d_X0_readFrom_95 (by decide) ?_
      exact aw_ret d_X0_readFrom_96 rfl (by decide) h
    · have h := h.2 c
      obtain ⟨kk4, nn5, ek, en, h⟩ := h
      rw [ek, en]
      refine aw_new (c := 9) (n := 4) (r := (RX8, TX8, 4)) rfl rfl nw_RX0_31 d_X0_readFrom_19 ?_
      refine aw_dupR d_X0_readFrom_22 ?_
      refine aw_aload_n (i := 1) d_X0_readFrom_23 rfl rfl ?_
      refine aw_callS0 (as := [xR (some (10, v1))]) mw_X8_kindAt ml_RX0_33 rfl d_X0_readFrom_24 rfl (Nat.le_of_ble_eq_true rfl) (AMet.mono h (aw_toI (fun x7 σ6 h => ?_)))
      refine aw_callI0 (as := [xI x7]) mw_X8_init rfl rfl ml_RX0_37 rfl d_X0_readFrom_27 rfl (Nat.le_of_ble_eq_true rfl) (AMet.mono h (aw_toV (fun σ8 h => ?_)))
      refine aw_astore_n (i := 3) d_X0_readFrom_30 rfl (by decide) ?_
      refine aw_aload_n (i := 3) d_X0_readFrom_31 rfl rfl ?_
      refine aw_getI fl_RX0_40 rfl d_X0_readFrom_32 ?_
      refine aw_iconst (x := -1) d_X0_readFrom_35 (by decide) ?_
      refine aw_icmp_ne (tgt := 45) d_X0_readFrom_36 (by decide) (fun c => ?_) (fun c => ?_)
      · have h := h.1 c
        refine aw_iload_n (i := 2) d_X0_readFrom_45 rfl rfl ?_
        refine aw_bipush (x := 8) d_X0_readFrom_46 (by decide) ?_
        refine aw_icmp_ne (tgt := 57) d_X0_readFrom_48 (by decide) (fun c => ?_) (fun c => ?_)
        · have h := h.1 c
          refine aw_aload_n (i := 1) d_X0_readFrom_57 rfl rfl ?_
          refine aw_callV0 (as := []) mw_X9_advance (by decide +kernel) ml_RX0_47 rfl d_X0_readFrom_58 rfl (Nat.le_of_ble_eq_true rfl) (AMet.mono h (aw_toV (fun σ9 h => ?_)))
          refine aw_aload_n (i := 3) d_X0_readFrom_61 rfl rfl ?_
          refine aw_aload_n (i := 1) d_X0_readFrom_62 rfl rfl ?_
          refine aw_callV0 (as := [xR (some (10, v1))]) mw_X8_readNumbers (by decide +kernel) ml_RX0_50 rfl d_X0_readFrom_63 rfl (Nat.le_of_ble_eq_true rfl) (AMet.mono h (aw_toI (fun x11 σ10 h => ?_)))
          refine aw_if_eq (tgt := 78) d_X0_readFrom_66 (by decide) (fun c => ?_) (fun c => ?_)
          · have h := h.1 c
            refine aw_iconst (x := 0) d_X0_readFrom_78 (by decide) ?_
            exact aw_ret d_X0_readFrom_79 rfl (by decide) h
          · have h := h.2 c
            refine aw_aload_n (i := 1) d_X0_readFrom_69 rfl rfl ?_
            refine aw_bipush (x := 59) d_X0_readFrom_70 (by decide) ?_
            refine aw_callV0 (as := [xI 59]) mw_X9_passSign (by decide +kernel) ml_RX0_54 rfl d_X0_readFrom_72 rfl (Nat.le_of_ble_eq_true rfl) (AMet.mono h (aw_toI (fun x13 σ12 h => ?_)))
            refine aw_if_ne (tgt := 80) d_X0_readFrom_75 (by decide) (fun c => ?_) (fun c => ?_)
            · have h := h.1 c
              refine aw_aload_n (i := 0) d_X0_readFrom_80 rfl rfl ?_
              refine aw_getR fl_RX0_12 rfl d_X0_readFrom_81 ?_
              refine aw_aload_n (i := 3) d_X0_readFrom_84 rfl rfl ?_
              obtain ⟨j14, ej14, h⟩ := h
              rw [ej14]
              obtain ⟨mc18, ms19, kk16, nn17, ek, en, h⟩ := h
              rw [ek, en]
              refine aw_callV (as := [xR (some (9, (cnt σ2 9)))]) mw_Jx4a65c_add_9ea2d (by decide +kernel) ml_RX0_58 rfl d_X0_readFrom_85 rfl (Nat.le_of_ble_eq_true rfl) (AMet.mono h (aw_toI (fun x20 σ15 h => ?_)))
              refine aw_popI d_X0_readFrom_88 ?_
              refine aw_iinc (i := 2) (v := v2 + 1) d_X0_readFrom_89 rfl rfl (by decide) ?_
              refine aw_goto (tgt := 6) d_X0_readFrom_92 (by decide) ?_
              exact AW.weak h (by exact ⟨rfl, ⟨rfl, ⟨rfl, trivial⟩⟩⟩)
            · have h := h.2 c
              refine aw_iconst (x := 0) d_X0_readFrom_78 (by decide) ?_
              exact aw_ret d_X0_readFrom_79 rfl (by decide) h
        · have h := h.2 c
          refine aw_aload_n (i := 1) d_X0_readFrom_51 rfl rfl ?_
          refine aw_iconst (x := 2) d_X0_readFrom_52 (by decide) ?_
          refine aw_callV0 (as := [xI 2]) mw_X9_fail (by decide +kernel) ml_RX0_43 rfl d_X0_readFrom_53 rfl (Nat.le_of_ble_eq_true rfl) (AMet.mono h (aw_toI (fun x22 σ21 h => ?_)))
          exact aw_ret d_X0_readFrom_56 rfl h.1 h.2
      · have h := h.2 c
        refine aw_aload_n (i := 1) d_X0_readFrom_39 rfl rfl ?_
        refine aw_iconst (x := 1) d_X0_readFrom_40 (by decide) ?_
        refine aw_callV0 (as := [xI 1]) mw_X9_fail (by decide +kernel) ml_RX0_43 rfl d_X0_readFrom_41 rfl (Nat.le_of_ble_eq_true rfl) (AMet.mono h (aw_toI (fun x24 σ23 h => ?_)))
        exact aw_ret d_X0_readFrom_44 rfl h.1 h.2
set_option maxRecDepth 20000 in
theorem vc_X0_worth {G : GG} {l : Launch} {d : Nat} {post : Option AVal → AS → Prop} {σ : AS} {kk nn : Nat} {i0 : Nat} {a1 : Int32} {a2 : Int32} (h : AW G l M_X0_worth (d + 1) post σ kk nn 5 [some (xR (some (1, i0))), some (xI a1), some (xI a2), some (xI 0), some (xI 0)] []) : AW G l M_X0_worth (d + 1) post σ kk nn 0 [some (xR (some (1, i0))), some (xI a1), some (xI a2), none, none] [] := by
  refine aw_iconst (x := 0) d_X0_worth_0 (by decide) ?_
  refine aw_istore_n (i := 3) d_X0_worth_1 rfl (by decide) ?_
  refine aw_iconst (x := 0) d_X0_worth_2 (by decide) ?_
  refine aw_istore (i := 4) d_X0_worth_3 (by decide) ?_
  exact h
set_option maxRecDepth 20000 in
theorem vc_X0_worth_5 {G : GG} {l : Launch} {d : Nat} {post : Option AVal → AS → Prop} {σ : AS} {kk nn : Nat} {v0 : Nat} {v1 : Int32} {v2 : Int32} {v3 : Int32} {v4 : Int32} (h : (∃ j1 : Nat, ((gR σ 1 1 v0) = some (0, j1) ∧ (AMet G l M_Jx4a65c_size_8abf5 d 0 0 [xR (some (0, j1))] σ (retI (fun x3 σ2 => (((x3 ≤ v4 → post (some (xI v3)) σ2)) ∧ ((¬ x3 ≤ v4 → (∃ j4 : Nat, ((gR σ2 1 1 v0) = some (0, j4) ∧ (AMet G l M_Jx4a65c_get_915e3 d 0 0 [xR (some (0, j4)), xI v4] σ2 (retR (fun r6 σ5 => (∃ j7 : Nat, (r6 = some (9, j7) ∧ (AMet G l M_X8_worth d 0 0 [xR (some (9, j7)), xI v1, xI v2] σ5 (retI (fun x9 σ8 => AW G l M_X0_worth (d + 1) post σ8 kk nn 5 [some (xR (some (1, v0))), some (xI v1), some (xI v2), some (xI (v3 + x9)), some (xI (v4 + 1))] []))))))))))))))))))) : AW G l M_X0_worth (d + 1) post σ kk nn 5 [some (xR (some (1, v0))), some (xI v1), some (xI v2), some (xI v3), some (xI v4)] [] := by
  refine aw_iload (i := 4) d_X0_worth_5 rfl ?_
  refine aw_aload_n (i := 0) d_X0_worth_7 rfl rfl ?_
  refine aw_getR fl_RX0_12 rfl d_X0_worth_8 ?_
  obtain ⟨j1, ej1, h⟩ := h
  rw [ej1]
  refine aw_callV0 (as := []) mw_Jx4a65c_size_8abf5 (by decide +kernel) ml_RX0_62 rfl d_X0_worth_11 rfl (Nat.le_of_ble_eq_true rfl) (AMet.mono h (aw_toI (fun x3 σ2 h => ?_)))
  refine aw_icmp_ge (tgt := 43) d_X0_worth_14 (by decide) (fun c => ?_) (fun c => ?_)
  · have h := h.1 c
    refine aw_iload_n (i := 3) d_X0_worth_43 rfl rfl ?_
    exact aw_ret d_X0_worth_44 rfl rfl h
  · have h := h.2 c
    refine aw_iload_n (i := 3) d_X0_worth_17 rfl rfl ?_
    refine aw_aload_n (i := 0) d_X0_worth_18 rfl rfl ?_
    refine aw_getR fl_RX0_12 rfl d_X0_worth_19 ?_
    refine aw_iload (i := 4) d_X0_worth_22 rfl ?_
    obtain ⟨j4, ej4, h⟩ := h
    rw [ej4]
    refine aw_callV0 (as := [xI v4]) mw_Jx4a65c_get_915e3 (by decide +kernel) ml_RX0_66 rfl d_X0_worth_24 rfl (Nat.le_of_ble_eq_true rfl) (AMet.mono h (aw_toR (fun r6 σ5 h => ?_)))
    obtain ⟨j7, ej7, h⟩ := h
    rw [ej7]
    refine aw_cast (c := 9) (by decide) cl_RX0_31 d_X0_worth_27 ?_
    refine aw_iload_n (i := 1) d_X0_worth_30 rfl rfl ?_
    refine aw_iload_n (i := 2) d_X0_worth_31 rfl rfl ?_
    refine aw_callV0 (as := [xI v1, xI v2]) mw_X8_worth (by decide +kernel) ml_RX0_70 rfl d_X0_worth_32 rfl (Nat.le_of_ble_eq_true rfl) (AMet.mono h (aw_toI (fun x9 σ8 h => ?_)))
    refine aw_iadd d_X0_worth_35 ?_
    refine aw_istore_n (i := 3) d_X0_worth_36 rfl (by decide) ?_
    refine aw_iinc (i := 4) (v := v4 + 1) d_X0_worth_37 rfl rfl (by decide) ?_
    refine aw_goto (tgt := 5) d_X0_worth_40 (by decide) ?_
    exact h
set_option maxRecDepth 20000 in
theorem vc_X2_init {G : GG} {l : Launch} {d : Nat} {post : Option AVal → AS → Prop} {σ : AS} {kk nn : Nat}  (h : (∃ kk1 nn2 : Nat, (kk = kk1 + 1 ∧ nn = nn2 + 7 ∧ ((∃ mc6 ms7 kk4 nn5 : Nat, (kk1 = kk4 + mc6 ∧ nn2 = nn5 + ms7 ∧ (AMet G l M_X9_init d mc6 ms7 [xR (some (10, (cnt σ 10)))] (nO σ 10) (retV (fun σ3 => (∃ kk8 nn9 : Nat, (kk4 = kk8 + 1 ∧ nn5 = nn9 + 2 ∧ ((∃ mc13 ms14 kk11 nn12 : Nat, (kk8 = kk11 + mc13 ∧ nn9 = nn12 + ms14 ∧ (AMet G l M_X7_init d mc13 ms14 [xR (some (8, (cnt (sR σ3 3 0 0 (some (10, (cnt σ 10)))) 8))), xI 1000] (nO (sR σ3 3 0 0 (some (10, (cnt σ 10)))) 8) (retV (fun σ10 => post none (sR σ10 3 1 0 (some (8, (cnt (sR σ3 3 0 0 (some (10, (cnt σ 10)))) 8))))))))))))))))))))) : AW G l M_X2_init (d + 1) post σ kk nn 0 [some (xR (some (3, 0)))] [] := by
  refine aw_aload_n (i := 0) d_X2_init_0 rfl rfl ?_
  refine aw_objInit oi_RX2_3 d_X2_init_1 (Nat.le_of_ble_eq_true rfl) ?_
  refine aw_aload_n (i := 0) d_X2_init_4 rfl rfl ?_
  obtain ⟨kk1, nn2, ek, en, h⟩ := h
  rw [ek, en]
  refine aw_new (c := 10) (n := 7) (r := (RX9, TX9, 7)) rfl rfl nw_RX2_9 d_X2_init_5 ?_
  refine aw_dupR d_X2_init_8 ?_
  obtain ⟨mc6, ms7, kk4, nn5, ek, en, h⟩ := h
  rw [ek, en]
  refine aw_callIN (as := []) mw_X9_init rfl rfl ml_RX2_11 rfl d_X2_init_9 rfl (Nat.le_of_ble_eq_true rfl) (AMet.mono h (aw_toV (fun σ3 h => ?_)))
  refine aw_putR fl_RX2_12 (by decide) (fin_init (r := (RX2, TX2, 2)) rfl rfl rfl) d_X2_init_12 rfl (by decide) ?_
  refine aw_aload_n (i := 0) d_X2_init_15 rfl rfl ?_
  obtain ⟨kk8, nn9, ek, en, h⟩ := h
  rw [ek, en]
  refine aw_new (c := 8) (n := 2) (r := (RX7, TX7, 2)) rfl rfl nw_RX2_18 d_X2_init_16 ?_
  refine aw_dupR d_X2_init_19 ?_
  refine aw_sipush (x := 1000) d_X2_init_20 (by decide) ?_
  obtain ⟨mc13, ms14, kk11, nn12, ek, en, h⟩ := h
  rw [ek, en]
  refine aw_callI (as := [xI 1000]) mw_X7_init rfl rfl ml_RX2_20 rfl d_X2_init_23 rfl (Nat.le_of_ble_eq_true rfl) (AMet.mono h (aw_toV (fun σ10 h => ?_)))
  refine aw_putR fl_RX2_23 (by decide) (fin_init (r := (RX2, TX2, 2)) rfl rfl rfl) d_X2_init_26 rfl (by decide) ?_
  exact aw_vret d_X2_init_29 rfl h
set_option maxRecDepth 20000 in
theorem vc_X2_read {G : GG} {l : Launch} {d : Nat} {post : Option AVal → AS → Prop} {σ : AS} {kk nn : Nat}  (h : (∃ kk1 nn2 : Nat, (kk = kk1 + 1 ∧ nn = nn2 + 3 ∧ (AMet G l M_Jx4a65c_init_da8c8 d 0 0 [xR (some (0, (cnt σ 0)))] (nO σ 0) (retV (fun σ3 => (St σ3 ∧ (AMet G l M_X9_begin d 0 0 [xR (some (10, 0))] σ3 (retV (fun σ4 => AW G l M_X2_read (d + 1) post σ4 kk1 nn2 17 [some (xR (some (3, 0))), some (xR (some (0, (cnt σ 0)))), some (xI 0), none] [])))))))))) : AW G l M_X2_read (d + 1) post σ kk nn 0 [some (xR (some (3, 0))), none, none, none] [] := by
  obtain ⟨kk1, nn2, ek, en, h⟩ := h
  rw [ek, en]
  refine aw_new (c := 0) (n := 3) (r := (RJx4a65c, TJx4a65c, 3)) rfl rfl nw_RX2_27 d_X2_read_0 ?_
  refine aw_dupR d_X2_read_3 ?_
  refine aw_callI0 (as := []) mw_Jx4a65c_init_da8c8 rfl rfl ml_RX2_29 rfl d_X2_read_4 rfl (Nat.le_of_ble_eq_true rfl) (AMet.mono h (aw_toV (fun σ3 h => ?_)))
  obtain ⟨hS3, h⟩ := h
  refine aw_astore_n (i := 1) d_X2_read_7 rfl (by decide) ?_
  refine aw_aload_n (i := 0) d_X2_read_8 rfl rfl ?_
  refine aw_getRv fl_RX2_12 rfl (r := some (10, 0)) (St.get hS3 3 0 0 10 0 (by decide)) d_X2_read_9 ?_
  refine aw_callV0 (as := []) mw_X9_begin (by decide +kernel) ml_RX2_30 rfl d_X2_read_12 rfl (Nat.le_of_ble_eq_true rfl) (AMet.mono h (aw_toV (fun σ4 h => ?_)))
  refine aw_iconst (x := 0) d_X2_read_15 (by decide) ?_
  refine aw_istore_n (i := 2) d_X2_read_16 rfl (by decide) ?_
  exact h
set_option maxRecDepth 20000 in
theorem vc_X2_read_17 {G : GG} {l : Launch} {d : Nat} {post : Option AVal → AS → Prop} {σ : AS} {kk nn : Nat} {v1 : Nat} {v2 : Int32} (hS : St σ) (h : (((6 < v2 → post (some (xR (some (0, v1)))) σ)) ∧ ((¬ 6 < v2 → AMet G l M_X9_atEnd d 0 0 [xR (some (10, 0))] σ (retI (fun x6 σ5 => (St σ5 ∧ (((¬ x6 = 0 → post (some (xR (some (0, v1)))) σ5)) ∧ ((x6 = 0 → (((¬ v2 = 6 → (∃ kk7 nn8 : Nat, (kk = kk7 + 1 ∧ nn = nn8 + 9 ∧ ((∃ mc12 ms13 kk10 nn11 : Nat, (kk7 = kk10 + mc12 ∧ nn8 = nn11 + ms13 ∧ (AMet G l M_X1_init d mc12 ms13 [xR (some (2, (cnt σ5 2))), xI v2] (nO σ5 2) (retV (fun σ9 => (St σ9 ∧ (AMet G l M_X2_readHead d 0 0 [xR (some (3, 0)), xR (some (2, (cnt σ5 2)))] (sI σ9 8 1 1 0) (retI (fun x15 σ14 => (((x15 = 0 → post (some (xR none)) σ14)) ∧ ((¬ x15 = 0 → AMet G l M_X2_readAny d 0 0 [xR (some (3, 0)), xI 0] σ14 (retI (fun x17 σ16 => (St σ16 ∧ (((x17 = 0 → post (some (xR none)) σ16)) ∧ ((¬ x17 = 0 → AMet G l M_X9_passSign d 0 0 [xR (some (10, 0)), xI 59] σ16 (retI (fun x19 σ18 => (St σ18 ∧ (((¬ x19 = 0 → (∃ mc23 ms24 kk21 nn22 : Nat, (kk10 = kk21 + mc23 ∧ nn11 = nn22 + ms24 ∧ (AMet G l M_X1_takeSteps d mc23 ms24 [xR (some (2, (cnt σ5 2))), xR (some (8, 1))] σ18 (retV (fun σ20 => (∃ mc28 ms29 kk26 nn27 : Nat, (kk21 = kk26 + mc28 ∧ nn22 = nn27 + ms29 ∧ (AMet G l M_Jx4a65c_add_9ea2d d mc28 ms29 [xR (some (0, v1)), xR (some (2, (cnt σ5 2)))] σ20 (retI (fun x30 σ25 => AW G l M_X2_read (d + 1) post σ25 kk26 nn27 17 [some (xR (some (3, 0))), some (xR (some (0, v1))), some (xI (v2 + 1)), none] [])))))))))))) ∧ ((x19 = 0 → post (some (xR none)) σ18))))))))))))))))))))))))))))) ∧ ((v2 = 6 → AMet G l M_X9_isWord d 0 0 [xR (some (10, 0)), xR (some (30, 0))] σ5 (retI (fun x32 σ31 => (St σ31 ∧ (((x32 = 0 → (∃ kk33 nn34 : Nat, (kk = kk33 + 1 ∧ nn = nn34 + 9 ∧ ((∃ mc38 ms39 kk36 nn37 : Nat, (kk33 = kk36 + mc38 ∧ nn34 = nn37 + ms39 ∧ (AMet G l M_X1_init d mc38 ms39 [xR (some (2, (cnt σ31 2))), xI v2] (nO σ31 2) (retV (fun σ35 => (St σ35 ∧ (AMet G l M_X2_readHead d 0 0 [xR (some (3, 0)), xR (some (2, (cnt σ31 2)))] (sI σ35 8 1 1 0) (retI (fun x41 σ40 => (((x41 = 0 → post (some (xR none)) σ40)) ∧ ((¬ x41 = 0 → AMet G l M_X2_readAny d 0 0 [xR (some (3, 0)), xI 0] σ40 (retI (fun x43 σ42 => (St σ42 ∧ (((x43 = 0 → post (some (xR none)) σ42)) ∧ ((¬ x43 = 0 → AMet G l M_X9_passSign d 0 0 [xR (some (10, 0)), xI 59] σ42 (retI (fun x45 σ44 => (St σ44 ∧ (((¬ x45 = 0 → (∃ mc49 ms50 kk47 nn48 : Nat, (kk36 = kk47 + mc49 ∧ nn37 = nn48 + ms50 ∧ (AMet G l M_X1_takeSteps d mc49 ms50 [xR (some (2, (cnt σ31 2))), xR (some (8, 1))] σ44 (retV (fun σ46 => (∃ mc54 ms55 kk52 nn53 : Nat, (kk47 = kk52 + mc54 ∧ nn48 = nn53 + ms55 ∧ (AMet G l M_Jx4a65c_add_9ea2d d mc54 ms55 [xR (some (0, v1)), xR (some (2, (cnt σ31 2)))] σ46 (retI (fun x56 σ51 => AW G l M_X2_read (d + 1) post σ51 kk52 nn53 17 [some (xR (some (3, 0))), some (xR (some (0, v1))), some (xI (v2 + 1)), none] [])))))))))))) ∧ ((x45 = 0 → post (some (xR none)) σ44))))))))))))))))))))))))))))) ∧ ((¬ x32 = 0 → AMet G l M_X9_fail d 0 0 [xR (some (10, 0)), xI 2] σ31 (retI (fun x58 σ57 => post (some (xR none)) σ57))))))))))))))))))))) : AW G l M_X2_read (d + 1) post σ kk nn 17 [some (xR (some (3, 0))), some (xR (some (0, v1))), some (xI v2), none] [] := by
  refine aw_iload_n (i := 2) d_X2_read_17 rfl rfl ?_
  refine aw_bipush (x := 6) d_X2_read_18 (by decide) ?_
  refine aw_icmp_gt (tgt := 129) d_X2_read_20 (by decide) (fun c => ?_) (fun c => ?_)
  · have h := h.1 c
    refine aw_aload_n (i := 1) d_X2_read_129 rfl rfl ?_
    exact aw_aret d_X2_read_130 rfl (Or.inl ⟨_, rfl⟩) h
  · have h := h.2 c
    refine aw_aload_n (i := 0) d_X2_read_23 rfl rfl ?_
    refine aw_getRv fl_RX2_12 rfl (r := some (10, 0)) (St.get hS 3 0 0 10 0 (by decide)) d_X2_read_24 ?_
    refine aw_callV0 (as := []) mw_X9_atEnd (by decide +kernel) ml_RX2_33 rfl d_X2_read_27 rfl (Nat.le_of_ble_eq_true rfl) (AMet.mono h (aw_toI (fun x6 σ5 h => ?_)))
    obtain ⟨hS5, h⟩ := h
    refine aw_if_ne (tgt := 129) d_X2_read_30 (by decide) (fun c => ?_) (fun c => ?_)
    · have h := h.1 c
      refine aw_aload_n (i := 1) d_X2_read_129 rfl rfl ?_
      exact aw_aret d_X2_read_130 rfl (Or.inl ⟨_, rfl⟩) h
    · have h := h.2 c
      refine aw_iload_n (i := 2) d_X2_read_33 rfl rfl ?_
      refine aw_bipush (x := 6) d_X2_read_34 (by decide) ?_
      refine aw_icmp_ne (tgt := 62) d_X2_read_36 (by decide) (fun c => ?_) (fun c => ?_)
      · have h := h.1 c
        obtain ⟨kk7, nn8, ek, en, h⟩ := h
        rw [ek, en]
        refine aw_new (c := 2) (n := 9) (r := (RX1, TX1, 9)) rfl rfl nw_RX2_47 d_X2_read_62 ?_
        refine aw_dupR d_X2_read_65 ?_
        refine aw_iload_n (i := 2) d_X2_read_66 rfl rfl ?_
        obtain ⟨mc12, ms13, kk10, nn11, ek, en, h⟩ := h
        rw [ek, en]
        refine aw_callI (as := [xI v2]) mw_X1_init rfl rfl ml_RX2_49 rfl d_X2_read_67 rfl (Nat.le_of_ble_eq_true rfl) (AMet.mono h (aw_toV (fun σ9 h => ?_)))
        obtain ⟨hS9, h⟩ := h
        refine aw_astore_n (i := 3) d_X2_read_70 rfl (by decide) ?_
        refine aw_aload_n (i := 0) d_X2_read_71 rfl rfl ?_
        refine aw_getRv fl_RX2_23 rfl (r := some (8, 1)) (St.get hS9 3 1 0 8 1 (by decide)) d_X2_read_72 ?_
        refine aw_iconst (x := 0) d_X2_read_75 (by decide) ?_
        refine aw_putI fl_RX2_50 (by decide) (fin_no (r := (RX7, TX7, 2)) rfl rfl) d_X2_read_76 rfl ⟨rfl, rfl⟩ ?_
        refine aw_aload_n (i := 0) d_X2_read_79 rfl rfl ?_
        refine aw_aload_n (i := 3) d_X2_read_80 rfl rfl ?_
        refine aw_callV0 (as := [xR (some (2, (cnt σ5 2)))]) mw_X2_readHead (by decide +kernel) ml_RX2_54 rfl d_X2_read_81 rfl (Nat.le_of_ble_eq_true rfl) (AMet.mono h (aw_toI (fun x15 σ14 h => ?_)))
        refine aw_if_eq (tgt := 107) d_X2_read_84 (by decide) (fun c => ?_) (fun c => ?_)
        · have h := h.1 c
          refine aw_null d_X2_read_107 ?_
          exact aw_aret d_X2_read_108 rfl (Or.inl ⟨_, rfl⟩) h
        · have h := h.2 c
          refine aw_aload_n (i := 0) d_X2_read_87 rfl rfl ?_
          refine aw_iconst (x := 0) d_X2_read_88 (by decide) ?_
          refine aw_callV0 (as := [xI 0]) mw_X2_readAny (by decide +kernel) ml_RX2_58 rfl d_X2_read_89 rfl (Nat.le_of_ble_eq_true rfl) (AMet.mono h (aw_toI (fun x17 σ16 h => ?_)))
          obtain ⟨hS16, h⟩ := h
          refine aw_if_eq (tgt := 107) d_X2_read_92 (by decide) (fun c => ?_) (fun c => ?_)
          · have h := h.1 c
            refine aw_null d_X2_read_107 ?_
            exact aw_aret d_X2_read_108 rfl (Or.inl ⟨_, rfl⟩) h
          · have h := h.2 c
            refine aw_aload_n (i := 0) d_X2_read_95 rfl rfl ?_
            refine aw_getRv fl_RX2_12 rfl (r := some (10, 0)) (St.get hS16 3 0 0 10 0 (by decide)) d_X2_read_96 ?_
            refine aw_bipush (x := 59) d_X2_read_99 (by decide) ?_
            refine aw_callV0 (as := [xI 59]) mw_X9_passSign (by decide +kernel) ml_RX2_61 rfl d_X2_read_101 rfl (Nat.le_of_ble_eq_true rfl) (AMet.mono h (aw_toI (fun x19 σ18 h => ?_)))
            obtain ⟨hS18, h⟩ := h
            refine aw_if_ne (tgt := 109) d_X2_read_104 (by decide) (fun c => ?_) (fun c => ?_)
            · have h := h.1 c
              refine aw_aload_n (i := 3) d_X2_read_109 rfl rfl ?_
              refine aw_aload_n (i := 0) d_X2_read_110 rfl rfl ?_
              refine aw_getRv fl_RX2_23 rfl (r := some (8, 1)) (St.get hS18 3 1 0 8 1 (by decide)) d_X2_read_111 ?_
              obtain ⟨mc23, ms24, kk21, nn22, ek, en, h⟩ := h
              rw [ek, en]
              refine aw_callV (as := [xR (some (8, 1))]) mw_X1_takeSteps (by decide +kernel) ml_RX2_65 rfl d_X2_read_114 rfl (Nat.le_of_ble_eq_true rfl) (AMet.mono h (aw_toV (fun σ20 h => ?_)))
              refine aw_aload_n (i := 1) d_X2_read_117 rfl rfl ?_
              refine aw_aload_n (i := 3) d_X2_read_118 rfl rfl ?_
              obtain ⟨mc28, ms29, kk26, nn27, ek, en, h⟩ := h
              rw [ek, en]
              refine aw_callV (as := [xR (some (2, (cnt σ5 2)))]) mw_Jx4a65c_add_9ea2d (by decide +kernel) ml_RX2_69 rfl d_X2_read_119 rfl (Nat.le_of_ble_eq_true rfl) (AMet.mono h (aw_toI (fun x30 σ25 h => ?_)))
              refine aw_popI d_X2_read_122 ?_
              refine aw_iinc (i := 2) (v := v2 + 1) d_X2_read_123 rfl rfl (by decide) ?_
              refine aw_goto (tgt := 17) d_X2_read_126 (by decide) ?_
              exact AW.weak h (by exact ⟨rfl, ⟨rfl, ⟨rfl, trivial⟩⟩⟩)
            · have h := h.2 c
              refine aw_null d_X2_read_107 ?_
              exact aw_aret d_X2_read_108 rfl (Or.inl ⟨_, rfl⟩) h
      · have h := h.2 c
        refine aw_aload_n (i := 0) d_X2_read_39 rfl rfl ?_
        refine aw_getRv fl_RX2_12 rfl (r := some (10, 0)) (St.get hS5 3 0 0 10 0 (by decide)) d_X2_read_40 ?_
        refine aw_ldcS (tx := "scene") (i := 0) (by decide +kernel) (by decide) d_X2_read_43 ?_
        refine aw_callV0 (as := [xR (some (30, 0))]) mw_X9_isWord (by decide +kernel) ml_RX2_39 rfl d_X2_read_45 rfl (Nat.le_of_ble_eq_true rfl) (AMet.mono h (aw_toI (fun x32 σ31 h => ?_)))
        obtain ⟨hS31, h⟩ := h
        refine aw_if_eq (tgt := 62) d_X2_read_48 (by decide) (fun c => ?_) (fun c => ?_)
        · have h := h.1 c
          obtain ⟨kk33, nn34, ek, en, h⟩ := h
          rw [ek, en]
          refine aw_new (c := 2) (n := 9) (r := (RX1, TX1, 9)) rfl rfl nw_RX2_47 d_X2_read_62 ?_
          refine aw_dupR d_X2_read_65 ?_
          refine aw_iload_n (i := 2) d_X2_read_66 rfl rfl ?_
          obtain ⟨mc38, ms39, kk36, nn37, ek, en, h⟩ := h
          rw [ek, en]
          refine aw_callI (as := [xI v2]) mw_X1_init rfl rfl ml_RX2_49 rfl d_X2_read_67 rfl (Nat.le_of_ble_eq_true rfl) (AMet.mono h (aw_toV (fun σ35 h => ?_)))
          obtain ⟨hS35, h⟩ := h
          refine aw_astore_n (i := 3) d_X2_read_70 rfl (by decide) ?_
          refine aw_aload_n (i := 0) d_X2_read_71 rfl rfl ?_
          refine aw_getRv fl_RX2_23 rfl (r := some (8, 1)) (St.get hS35 3 1 0 8 1 (by decide)) d_X2_read_72 ?_
          refine aw_iconst (x := 0) d_X2_read_75 (by decide) ?_
          refine aw_putI fl_RX2_50 (by decide) (fin_no (r := (RX7, TX7, 2)) rfl rfl) d_X2_read_76 rfl ⟨rfl, rfl⟩ ?_
          refine aw_aload_n (i := 0) d_X2_read_79 rfl rfl ?_
          refine aw_aload_n (i := 3) d_X2_read_80 rfl rfl ?_
          refine aw_callV0 (as := [xR (some (2, (cnt σ31 2)))]) mw_X2_readHead (by decide +kernel) ml_RX2_54 rfl d_X2_read_81 rfl (Nat.le_of_ble_eq_true rfl) (AMet.mono h (aw_toI (fun x41 σ40 h => ?_)))
          refine aw_if_eq (tgt := 107) d_X2_read_84 (by decide) (fun c => ?_) (fun c => ?_)
          · have h := h.1 c
            refine aw_null d_X2_read_107 ?_
            exact aw_aret d_X2_read_108 rfl (Or.inl ⟨_, rfl⟩) h
          · have h := h.2 c
            refine aw_aload_n (i := 0) d_X2_read_87 rfl rfl ?_
            refine aw_iconst (x := 0) d_X2_read_88 (by decide) ?_
            refine aw_callV0 (as := [xI 0]) mw_X2_readAny (by decide +kernel) ml_RX2_58 rfl d_X2_read_89 rfl (Nat.le_of_ble_eq_true rfl) (AMet.mono h (aw_toI (fun x43 σ42 h => ?_)))
            obtain ⟨hS42, h⟩ := h
            refine aw_if_eq (tgt := 107) d_X2_read_92 (by decide) (fun c => ?_) (fun c => ?_)
            · have h := h.1 c
              refine aw_null d_X2_read_107 ?_
              exact aw_aret d_X2_read_108 rfl (Or.inl ⟨_, rfl⟩) h
            · have h := h.2 c
              refine aw_aload_n (i := 0) d_X2_read_95 rfl rfl ?_
              refine aw_getRv fl_RX2_12 rfl (r := some (10, 0)) (St.get hS42 3 0 0 10 0 (by decide)) d_X2_read_96 ?_
              refine aw_bipush (x := 59) d_X2_read_99 (by decide) ?_
              refine aw_callV0 (as := [xI 59]) mw_X9_passSign (by decide +kernel) ml_RX2_61 rfl d_X2_read_101 rfl (Nat.le_of_ble_eq_true rfl) (AMet.mono h (aw_toI (fun x45 σ44 h => ?_)))
              obtain ⟨hS44, h⟩ := h
              refine aw_if_ne (tgt := 109) d_X2_read_104 (by decide) (fun c => ?_) (fun c => ?_)
              · have h := h.1 c
                refine aw_aload_n (i := 3) d_X2_read_109 rfl rfl ?_
                refine aw_aload_n (i := 0) d_X2_read_110 rfl rfl ?_
                refine aw_getRv fl_RX2_23 rfl (r := some (8, 1)) (St.get hS44 3 1 0 8 1 (by decide)) d_X2_read_111 ?_
                obtain ⟨mc49, ms50, kk47, nn48, ek, en, h⟩ := h
                rw [ek, en]
                refine aw_callV (as := [xR (some (8, 1))]) mw_X1_takeSteps (by decide +kernel) ml_RX2_65 rfl d_X2_read_114 rfl (Nat.le_of_ble_eq_true rfl) (AMet.mono h (aw_toV (fun σ46 h => ?_)))
                refine aw_aload_n (i := 1) d_X2_read_117 rfl rfl ?_
                refine aw_aload_n (i := 3) d_X2_read_118 rfl rfl ?_
                obtain ⟨mc54, ms55, kk52, nn53, ek, en, h⟩ := h
                rw [ek, en]
                refine aw_callV (as := [xR (some (2, (cnt σ31 2)))]) mw_Jx4a65c_add_9ea2d (by decide +kernel) ml_RX2_69 rfl d_X2_read_119 rfl (Nat.le_of_ble_eq_true rfl) (AMet.mono h (aw_toI (fun x56 σ51 h => ?_)))
                refine aw_popI d_X2_read_122 ?_
                refine aw_iinc (i := 2) (v := v2 + 1) d_X2_read_123 rfl rfl (by decide) ?_
                refine aw_goto (tgt := 17) d_X2_read_126 (by decide) ?_
                exact AW.weak h (by exact ⟨rfl, ⟨rfl, ⟨rfl, trivial⟩⟩⟩)
              · have h := h.2 c
                refine aw_null d_X2_read_107 ?_
                exact aw_aret d_X2_read_108 rfl (Or.inl ⟨_, rfl⟩) h
        · have h := h.2 c
          refine aw_aload_n (i := 0) d_X2_read_51 rfl rfl ?_
          refine aw_getRv fl_RX2_12 rfl (r := some (10, 0)) (St.get hS31 3 0 0 10 0 (by decide)) d_X2_read_52 ?_
          refine aw_iconst (x := 2) d_X2_read_55 (by decide) ?_
          refine aw_callV0 (as := [xI 2]) mw_X9_fail (by decide +kernel) ml_RX2_43 rfl d_X2_read_56 rfl (Nat.le_of_ble_eq_true rfl) (AMet.mono h (aw_toI (fun x58 σ57 h => ?_)))
          refine aw_popI d_X2_read_59 ?_
          refine aw_null d_X2_read_60 ?_
          exact aw_aret d_X2_read_61 rfl (Or.inl ⟨_, rfl⟩) h
set_option maxRecDepth 20000 in
theorem vc_X2_readHead {G : GG} {l : Launch} {d : Nat} {post : Option AVal → AS → Prop} {σ : AS} {kk nn : Nat} {p1 : Nat} (hS : St σ) (h : AMet G l M_X9_passNumberAfter d 0 0 [xR (some (10, 0)), xR (some (30, 0)), xI 0, xI 19] σ (retI (fun x2 σ1 => (St σ1 ∧ (((¬ x2 = (-1) → AMet G l M_X9_passNumberAfter d 0 0 [xR (some (10, 0)), xR (some (30, 1)), xI 0, xI 1439] (sI σ1 2 1 p1 x2) (retI (fun x4 σ3 => (St σ3 ∧ (((¬ x4 = (-1) → AMet G l M_X9_passNumberAfter d 0 0 [xR (some (10, 0)), xR (some (30, 2)), xI 1, xI 600] (sI σ3 2 2 p1 x4) (retI (fun x6 σ5 => (St σ5 ∧ (((¬ x6 = (-1) → AMet G l M_X9_passNumberAfter d 0 0 [xR (some (10, 0)), xR (some (30, 3)), xI 1, xI 8] (sI σ5 2 3 p1 x6) (retI (fun x8 σ7 => (St σ7 ∧ (((x8 = (-1) → post (some (xI 0)) (sI σ7 2 4 p1 x8))) ∧ ((¬ x8 = (-1) → AMet G l M_X9_passSign d 0 0 [xR (some (10, 0)), xI 58] (sI σ7 2 4 p1 x8) (retI (fun x10 σ9 => (((x10 = 0 → post (some (xI 0)) σ9)) ∧ ((¬ x10 = 0 → post (some (xI 1)) σ9))))))))))))) ∧ ((x6 = (-1) → post (some (xI 0)) (sI σ5 2 3 p1 x6))))))))) ∧ ((x4 = (-1) → post (some (xI 0)) (sI σ3 2 2 p1 x4))))))))) ∧ ((x2 = (-1) → post (some (xI 0)) (sI σ1 2 1 p1 x2)))))))) : AW G l M_X2_readHead (d + 1) post σ kk nn 0 [some (xR (some (3, 0))), some (xR (some (2, p1)))] [] := by
  refine aw_aload_n (i := 1) d_X2_readHead_0 rfl rfl ?_
  refine aw_aload_n (i := 0) d_X2_readHead_1 rfl rfl ?_
  refine aw_getRv fl_RX2_12 rfl (r := some (10, 0)) (St.get hS 3 0 0 10 0 (by decide)) d_X2_readHead_2 ?_
  refine aw_ldcS (tx := "scene") (i := 0) (by decide +kernel) (by decide) d_X2_readHead_5 ?_
  refine aw_iconst (x := 0) d_X2_readHead_7 (by decide) ?_
  refine aw_bipush (x := 19) d_X2_readHead_8 (by decide) ?_
  refine aw_callV0 (as := [xR (some (30, 0)), xI 0, xI 19]) mw_X9_passNumberAfter (by decide +kernel) ml_RX2_73 rfl d_X2_readHead_10 rfl (Nat.le_of_ble_eq_true rfl) (AMet.mono h (aw_toI (fun x2 σ1 h => ?_)))
  obtain ⟨hS1, h⟩ := h
  refine aw_putI fl_RX2_77 (by decide) (fin_no (r := (RX1, TX1, 9)) rfl rfl) d_X2_readHead_13 rfl ⟨rfl, rfl⟩ ?_
  refine aw_aload_n (i := 1) d_X2_readHead_16 rfl rfl ?_
  refine aw_getIv fl_RX2_77 rfl (x := x2) (gI_self (σ := σ1) (c := 2) (f := 1) (i := p1) (v := x2)) d_X2_readHead_17 ?_
  refine aw_iconst (x := -1) d_X2_readHead_20 (by decide) ?_
  refine aw_icmp_ne (tgt := 26) d_X2_readHead_21 (by decide) (fun c => ?_) (fun c => ?_)
  · have h := h.1 c
    refine aw_aload_n (i := 1) d_X2_readHead_26 rfl rfl ?_
    refine aw_aload_n (i := 0) d_X2_readHead_27 rfl rfl ?_
    refine aw_getRv fl_RX2_12 rfl (r := some (10, 0)) (St.get (St.sI hS1) 3 0 0 10 0 (by decide)) d_X2_readHead_28 ?_
    refine aw_ldcS (tx := "at") (i := 1) (by decide +kernel) (by decide) d_X2_readHead_31 ?_
    refine aw_iconst (x := 0) d_X2_readHead_33 (by decide) ?_
    refine aw_sipush (x := 1439) d_X2_readHead_34 (by decide) ?_
    refine aw_callV0 (as := [xR (some (30, 1)), xI 0, xI 1439]) mw_X9_passNumberAfter (by decide +kernel) ml_RX2_73 rfl d_X2_readHead_37 rfl (Nat.le_of_ble_eq_true rfl) (AMet.mono h (aw_toI (fun x4 σ3 h => ?_)))
    obtain ⟨hS3, h⟩ := h
    refine aw_putI fl_RX2_81 (by decide) (fin_no (r := (RX1, TX1, 9)) rfl rfl) d_X2_readHead_40 rfl ⟨rfl, rfl⟩ ?_
    refine aw_aload_n (i := 1) d_X2_readHead_43 rfl rfl ?_
    refine aw_getIv fl_RX2_81 rfl (x := x4) (gI_self (σ := σ3) (c := 2) (f := 2) (i := p1) (v := x4)) d_X2_readHead_44 ?_
    refine aw_iconst (x := -1) d_X2_readHead_47 (by decide) ?_
    refine aw_icmp_ne (tgt := 53) d_X2_readHead_48 (by decide) (fun c => ?_) (fun c => ?_)
    · have h := h.1 c
      refine aw_aload_n (i := 1) d_X2_readHead_53 rfl rfl ?_
      refine aw_aload_n (i := 0) d_X2_readHead_54 rfl rfl ?_
      refine aw_getRv fl_RX2_12 rfl (r := some (10, 0)) (St.get (St.sI hS3) 3 0 0 10 0 (by decide)) d_X2_readHead_55 ?_
      refine aw_ldcS (tx := "for") (i := 2) (by decide +kernel) (by decide) d_X2_readHead_58 ?_
      refine aw_iconst (x := 1) d_X2_readHead_60 (by decide) ?_
      refine aw_sipush (x := 600) d_X2_readHead_61 (by decide) ?_
      refine aw_callV0 (as := [xR (some (30, 2)), xI 1, xI 600]) mw_X9_passNumberAfter (by decide +kernel) ml_RX2_73 rfl d_X2_readHead_64 rfl (Nat.le_of_ble_eq_true rfl) (AMet.mono h (aw_toI (fun x6 σ5 h => ?_)))
      obtain ⟨hS5, h⟩ := h
      refine aw_putI fl_RX2_86 (by decide) (fin_no (r := (RX1, TX1, 9)) rfl rfl) d_X2_readHead_67 rfl ⟨rfl, rfl⟩ ?_
      refine aw_aload_n (i := 1) d_X2_readHead_70 rfl rfl ?_
      refine aw_getIv fl_RX2_86 rfl (x := x6) (gI_self (σ := σ5) (c := 2) (f := 3) (i := p1) (v := x6)) d_X2_readHead_71 ?_
      refine aw_iconst (x := -1) d_X2_readHead_74 (by decide) ?_
      refine aw_icmp_ne (tgt := 80) d_X2_readHead_75 (by decide) (fun c => ?_) (fun c => ?_)
      · have h := h.1 c
        refine aw_aload_n (i := 1) d_X2_readHead_80 rfl rfl ?_
        refine aw_aload_n (i := 0) d_X2_readHead_81 rfl rfl ?_
        refine aw_getRv fl_RX2_12 rfl (r := some (10, 0)) (St.get (St.sI hS5) 3 0 0 10 0 (by decide)) d_X2_readHead_82 ?_
        refine aw_ldcS (tx := "want") (i := 3) (by decide +kernel) (by decide) d_X2_readHead_85 ?_
        refine aw_iconst (x := 1) d_X2_readHead_87 (by decide) ?_
        refine aw_bipush (x := 8) d_X2_readHead_88 (by decide) ?_
        refine aw_callV0 (as := [xR (some (30, 3)), xI 1, xI 8]) mw_X9_passNumberAfter (by decide +kernel) ml_RX2_73 rfl d_X2_readHead_90 rfl (Nat.le_of_ble_eq_true rfl) (AMet.mono h (aw_toI (fun x8 σ7 h => ?_)))
        obtain ⟨hS7, h⟩ := h
        refine aw_putI fl_RX2_91 (by decide) (fin_no (r := (RX1, TX1, 9)) rfl rfl) d_X2_readHead_93 rfl ⟨rfl, rfl⟩ ?_
        refine aw_aload_n (i := 1) d_X2_readHead_96 rfl rfl ?_
        refine aw_getIv fl_RX2_91 rfl (x := x8) (gI_self (σ := σ7) (c := 2) (f := 4) (i := p1) (v := x8)) d_X2_readHead_97 ?_
        refine aw_iconst (x := -1) d_X2_readHead_100 (by decide) ?_
        refine aw_icmp_eq (tgt := 120) d_X2_readHead_101 (by decide) (fun c => ?_) (fun c => ?_)
        · have h := h.1 c
          refine aw_iconst (x := 0) d_X2_readHead_120 (by decide) ?_
          exact aw_ret d_X2_readHead_121 rfl (by decide) h
        · have h := h.2 c
          refine aw_aload_n (i := 0) d_X2_readHead_104 rfl rfl ?_
          refine aw_getRv fl_RX2_12 rfl (r := some (10, 0)) (St.get (St.sI hS7) 3 0 0 10 0 (by decide)) d_X2_readHead_105 ?_
          refine aw_bipush (x := 58) d_X2_readHead_108 (by decide) ?_
          refine aw_callV0 (as := [xI 58]) mw_X9_passSign (by decide +kernel) ml_RX2_61 rfl d_X2_readHead_110 rfl (Nat.le_of_ble_eq_true rfl) (AMet.mono h (aw_toI (fun x10 σ9 h => ?_)))
          refine aw_if_eq (tgt := 120) d_X2_readHead_113 (by decide) (fun c => ?_) (fun c => ?_)
          · have h := h.1 c
            refine aw_iconst (x := 0) d_X2_readHead_120 (by decide) ?_
            exact aw_ret d_X2_readHead_121 rfl (by decide) h
          · have h := h.2 c
            refine aw_iconst (x := 1) d_X2_readHead_116 (by decide) ?_
            refine aw_goto (tgt := 121) d_X2_readHead_117 (by decide) ?_
            exact aw_ret d_X2_readHead_121 rfl (by decide) h
      · have h := h.2 c
        refine aw_iconst (x := 0) d_X2_readHead_78 (by decide) ?_
        exact aw_ret d_X2_readHead_79 rfl (by decide) h
    · have h := h.2 c
      refine aw_iconst (x := 0) d_X2_readHead_51 (by decide) ?_
      exact aw_ret d_X2_readHead_52 rfl (by decide) h
  · have h := h.2 c
    refine aw_iconst (x := 0) d_X2_readHead_24 (by decide) ?_
    exact aw_ret d_X2_readHead_25 rfl (by decide) h
set_option maxRecDepth 20000 in
theorem vc_X2_readAny {G : GG} {l : Launch} {d : Nat} {post : Option AVal → AS → Prop} {σ : AS} {kk nn : Nat} {a1 : Int32} (h : AW G l M_X2_readAny (d + 1) post σ kk nn 7 [some (xR (some (3, 0))), some (xI a1), some (xI 0), some (xI 0), some (xI 0)] []) : AW G l M_X2_readAny (d + 1) post σ kk nn 0 [some (xR (some (3, 0))), some (xI a1), none, none, none] [] := by
  refine aw_iconst (x := 0) d_X2_readAny_0 (by decide) ?_
  refine aw_istore_n (i := 2) d_X2_readAny_1 rfl (by decide) ?_
  refine aw_iconst (x := 0) d_X2_readAny_2 (by decide) ?_
  refine aw_istore_n (i := 3) d_X2_readAny_3 rfl (by decide) ?_
  refine aw_iconst (x := 0) d_X2_readAny_4 (by decide) ?_
  refine aw_istore (i := 4) d_X2_readAny_5 (by decide) ?_
  exact h
set_option maxRecDepth 20000 in
theorem vc_X2_readAny_7 {G : GG} {l : Launch} {d : Nat} {post : Option AVal → AS → Prop} {σ : AS} {kk nn : Nat} {v1 : Int32} {v2 : Int32} {v3 : Int32} {v4 : Int32} (hS : St σ) (h : (((1000 ≤ v4 → AMet G l M_X9_fail d 0 0 [xR (some (10, 0)), xI 1] σ (retI (fun x2 σ1 => (narrow .boolean (.int x2) = .int x2 ∧ post (some (xI x2)) σ1))))) ∧ ((¬ 1000 ≤ v4 → AMet G l M_X2_readOne d 0 0 [xR (some (3, 0)), xI v1] σ (retI (fun x4 σ3 => (St σ3 ∧ (((¬ x4 = 0 → (((v3 = 0 → AW G l M_X2_readAny (d + 1) post σ3 kk nn 38 [some (xR (some (3, 0))), some (xI v1), some (xI v2), none, some (xI v4)] [])) ∧ ((¬ v3 = 0 → AMet G l M_X7_add d 0 0 [xR (some (8, 1)), xI 900000] σ3 (retV (fun σ5 => AW G l M_X2_readAny (d + 1) post σ5 kk nn 38 [some (xR (some (3, 0))), some (xI v1), some (xI v2), none, some (xI v4)] []))))))) ∧ ((x4 = 0 → post (some (xI 0)) σ3)))))))))) : AW G l M_X2_readAny (d + 1) post σ kk nn 7 [some (xR (some (3, 0))), some (xI v1), some (xI v2), some (xI v3), some (xI v4)] [] := by
  refine aw_iload (i := 4) d_X2_readAny_7 rfl ?_
  refine aw_sipush (x := 1000) d_X2_readAny_9 (by decide) ?_
  refine aw_icmp_ge (tgt := 106) d_X2_readAny_12 (by decide) (fun c => ?_) (fun c => ?_)
  · have h := h.1 c
    refine aw_aload_n (i := 0) d_X2_readAny_106 rfl rfl ?_
    refine aw_getRv fl_RX2_12 rfl (r := some (10, 0)) (St.get hS 3 0 0 10 0 (by decide)) d_X2_readAny_107 ?_
    refine aw_iconst (x := 1) d_X2_readAny_110 (by decide) ?_
    refine aw_callV0 (as := [xI 1]) mw_X9_fail (by decide +kernel) ml_RX2_43 rfl d_X2_readAny_111 rfl (Nat.le_of_ble_eq_true rfl) (AMet.mono h (aw_toI (fun x2 σ1 h => ?_)))
    exact aw_ret d_X2_readAny_114 rfl h.1 h.2
  · have h := h.2 c
    refine aw_aload_n (i := 0) d_X2_readAny_15 rfl rfl ?_
    refine aw_iload_n (i := 1) d_X2_readAny_16 rfl rfl ?_
    refine aw_callV0 (as := [xI v1]) mw_X2_readOne (by decide +kernel) ml_RX2_94 rfl d_X2_readAny_17 rfl (Nat.le_of_ble_eq_true rfl) (AMet.mono h (aw_toI (fun x4 σ3 h => ?_)))
    obtain ⟨hS3, h⟩ := h
    refine aw_if_ne (tgt := 25) d_X2_readAny_20 (by decide) (fun c => ?_) (fun c => ?_)
    · have h := h.1 c
      refine aw_iload_n (i := 3) d_X2_readAny_25 rfl rfl ?_
      refine aw_if_eq (tgt := 38) d_X2_readAny_26 (by decide) (fun c => ?_) (fun c => ?_)
      · have h := h.1 c
        exact AW.weak h (by exact ⟨rfl, ⟨rfl, ⟨rfl, ⟨rfl, trivial⟩⟩⟩⟩)
      · have h := h.2 c
        refine aw_aload_n (i := 0) d_X2_readAny_29 rfl rfl ?_
        refine aw_getRv fl_RX2_23 rfl (r := some (8, 1)) (St.get hS3 3 1 0 8 1 (by decide)) d_X2_readAny_30 ?_
        refine aw_ldcI (x := 900000) d_X2_readAny_33 ct_RX2_97 ?_
        refine aw_callV0 (as := [xI 900000]) mw_X7_add (by decide +kernel) ml_RX2_98 rfl d_X2_readAny_35 rfl (Nat.le_of_ble_eq_true rfl) (AMet.mono h (aw_toV (fun σ5 h => ?_)))
        exact AW.weak h (by exact ⟨rfl, ⟨rfl, ⟨rfl, ⟨rfl, trivial⟩⟩⟩⟩)
    · have h := h.2 c
      refine aw_iconst (x := 0) d_X2_readAny_23 (by decide) ?_
      exact aw_ret d_X2_readAny_24 rfl (by decide) h
set_option maxRecDepth 20000 in
theorem vc_X2_readAny_38 {G : GG} {l : Launch} {d : Nat} {post : Option AVal → AS → Prop} {σ : AS} {kk nn : Nat} {v1 : Int32} {v2 : Int32} {v4 : Int32} (hS : St σ) (h : AMet G l M_X9_isWord d 0 0 [xR (some (10, 0)), xR (some (30, 11))] σ (retI (fun x7 σ6 => (St σ6 ∧ (((¬ x7 = 0 → AW G l M_X2_readAny (d + 1) post σ6 kk nn 65 [some (xR (some (3, 0))), some (xI v1), some (xI v2), some (xI x7), some (xI v4)] [])) ∧ ((x7 = 0 → (((v2 = 0 → AW G l M_X2_readAny (d + 1) post σ6 kk nn 65 [some (xR (some (3, 0))), some (xI v1), some (xI v2), some (xI x7), some (xI v4)] [])) ∧ ((¬ v2 = 0 → AMet G l M_X7_add d 0 0 [xR (some (8, 1)), xI 1000000] σ6 (retV (fun σ8 => AW G l M_X2_readAny (d + 1) post σ8 kk nn 65 [some (xR (some (3, 0))), some (xI v1), some (xI v2), some (xI x7), some (xI v4)] [])))))))))))) : AW G l M_X2_readAny (d + 1) post σ kk nn 38 [some (xR (some (3, 0))), some (xI v1), some (xI v2), none, some (xI v4)] [] := by
  refine aw_aload_n (i := 0) d_X2_readAny_38 rfl rfl ?_
  refine aw_getRv fl_RX2_12 rfl (r := some (10, 0)) (St.get hS 3 0 0 10 0 (by decide)) d_X2_readAny_39 ?_
  refine aw_ldcS (tx := "and") (i := 11) (by decide +kernel) (by decide) d_X2_readAny_42 ?_
  refine aw_callV0 (as := [xR (some (30, 11))]) mw_X9_isWord (by decide +kernel) ml_RX2_39 rfl d_X2_readAny_44 rfl (Nat.le_of_ble_eq_true rfl) (AMet.mono h (aw_toI (fun x7 σ6 h => ?_)))
  obtain ⟨hS6, h⟩ := h
  refine aw_istore_n (i := 3) d_X2_readAny_47 rfl (by decide) ?_
  refine aw_iload_n (i := 3) d_X2_readAny_48 rfl rfl ?_
  refine aw_if_ne (tgt := 65) d_X2_readAny_49 (by decide) (fun c => ?_) (fun c => ?_)
  · have h := h.1 c
    exact h
  · have h := h.2 c
    refine aw_iload_n (i := 2) d_X2_readAny_52 rfl rfl ?_
    refine aw_if_eq (tgt := 65) d_X2_readAny_53 (by decide) (fun c => ?_) (fun c => ?_)
    · have h := h.1 c
      exact h
    · have h := h.2 c
      refine aw_aload_n (i := 0) d_X2_readAny_56 rfl rfl ?_
      refine aw_getRv fl_RX2_23 rfl (r := some (8, 1)) (St.get hS6 3 1 0 8 1 (by decide)) d_X2_readAny_57 ?_
      refine aw_ldcI (x := 1000000) d_X2_readAny_60 ct_RX2_102 ?_
      refine aw_callV0 (as := [xI 1000000]) mw_X7_add (by decide +kernel) ml_RX2_98 rfl d_X2_readAny_62 rfl (Nat.le_of_ble_eq_true rfl) (AMet.mono h (aw_toV (fun σ8 h => ?_)))
      exact h
set_option maxRecDepth 20000 in
theorem vc_X2_readAny_65 {G : GG} {l : Launch} {d : Nat} {post : Option AVal → AS → Prop} {σ : AS} {kk nn : Nat} {v1 : Int32} {v2 : Int32} {v3 : Int32} {v4 : Int32} (hS : St σ) (h : (((v3 = 0 → AMet G l M_X9_isWord d 0 0 [xR (some (10, 0)), xR (some (30, 12))] σ (retI (fun x10 σ9 => (St σ9 ∧ (((¬ v3 = 0 → AMet G l M_X9_advance d 0 0 [xR (some (10, 0))] σ9 (retV (fun σ11 => AW G l M_X2_readAny (d + 1) post σ11 kk nn 7 [some (xR (some (3, 0))), some (xI v1), some (xI x10), some (xI v3), some (xI (v4 + 1))] [])))) ∧ ((v3 = 0 → (((¬ x10 = 0 → AMet G l M_X9_advance d 0 0 [xR (some (10, 0))] σ9 (retV (fun σ12 => AW G l M_X2_readAny (d + 1) post σ12 kk nn 7 [some (xR (some (3, 0))), some (xI v1), some (xI x10), some (xI v3), some (xI (v4 + 1))] [])))) ∧ ((x10 = 0 → post (some (xI 1)) σ9))))))))))) ∧ ((¬ v3 = 0 → (((¬ v3 = 0 → AMet G l M_X9_advance d 0 0 [xR (some (10, 0))] σ (retV (fun σ13 => AW G l M_X2_readAny (d + 1) post σ13 kk nn 7 [some (xR (some (3, 0))), some (xI v1), some (xI v2), some (xI v3), some (xI (v4 + 1))] [])))) ∧ ((v3 = 0 → (((¬ v2 = 0 → AMet G l M_X9_advance d 0 0 [xR (some (10, 0))] σ (retV (fun σ14 => AW G l M_X2_readAny (d + 1) post σ14 kk nn 7 [some (xR (some (3, 0))), some (xI v1), some (xI v2), some (xI v3), some (xI (v4 + 1))] [])))) ∧ ((v2 = 0 → post (some (xI 1)) σ)))))))))) : AW G l M_X2_readAny (d + 1) post σ kk nn 65 [some (xR (some (3, 0))), some (xI v1), some (xI v2), some (xI v3), some (xI v4)] [] := by
  refine aw_iload_n (i := 3) d_X2_readAny_65 rfl rfl ?_
  refine aw_if_eq (tgt := 73) d_X2_readAny_66 (by decide) (fun c => ?_) (fun c => ?_)
  · have h := h.1 c
    refine aw_aload_n (i := 0) d_X2_readAny_73 rfl rfl ?_
    refine aw_getRv fl_RX2_12 rfl (r := some (10, 0)) (St.get hS 3 0 0 10 0 (by decide)) d_X2_readAny_74 ?_
    refine aw_ldcS (tx := "or") (i := 12) (by decide +kernel) (by decide) d_X2_readAny_77 ?_
    refine aw_callV0 (as := [xR (some (30, 12))]) mw_X9_isWord (by decide +kernel) ml_RX2_39 rfl d_X2_readAny_79 rfl (Nat.le_of_ble_eq_true rfl) (AMet.mono h (aw_toI (fun x10 σ9 h => ?_)))
    obtain ⟨hS9, h⟩ := h
    refine aw_istore_n (i := 2) d_X2_readAny_82 rfl (by decide) ?_
    refine aw_iload_n (i := 3) d_X2_readAny_83 rfl rfl ?_
    refine aw_if_ne (tgt := 93) d_X2_readAny_84 (by decide) (fun c => ?_) (fun c => ?_)
    · have h := h.1 c
      refine aw_aload_n (i := 0) d_X2_readAny_93 rfl rfl ?_
      refine aw_getRv fl_RX2_12 rfl (r := some (10, 0)) (St.get hS9 3 0 0 10 0 (by decide)) d_X2_readAny_94 ?_
      refine aw_callV0 (as := []) mw_X9_advance (by decide +kernel) ml_RX2_105 rfl d_X2_readAny_97 rfl (Nat.le_of_ble_eq_true rfl) (AMet.mono h (aw_toV (fun σ11 h => ?_)))
      refine aw_iinc (i := 4) (v := v4 + 1) d_X2_readAny_100 rfl rfl (by decide) ?_
      refine aw_goto (tgt := 7) d_X2_readAny_103 (by decide) ?_
      exact h
    · have h := h.2 c
      refine aw_iload_n (i := 2) d_X2_readAny_87 rfl rfl ?_
      refine aw_if_ne (tgt := 93) d_X2_readAny_88 (by decide) (fun c => ?_) (fun c => ?_)
      · have h := h.1 c
        refine aw_aload_n (i := 0) d_X2_readAny_93 rfl rfl ?_
        refine aw_getRv fl_RX2_12 rfl (r := some (10, 0)) (St.get hS9 3 0 0 10 0 (by decide)) d_X2_readAny_94 ?_
        refine aw_callV0 (as := []) mw_X9_advance (by decide +kernel) ml_RX2_105 rfl d_X2_readAny_97 rfl (Nat.le_of_ble_eq_true rfl) (AMet.mono h (aw_toV (fun σ12 h => ?_)))
        refine aw_iinc (i := 4) (v := v4 + 1) d_X2_readAny_100 rfl rfl (by decide) ?_
        refine aw_goto (tgt := 7) d_X2_readAny_103 (by decide) ?_
        exact h
      · have h := h.2 c
        refine aw_iconst (x := 1) d_X2_readAny_91 (by decide) ?_
        exact aw_ret d_X2_readAny_92 rfl (by decide) h
  · have h := h.2 c
    refine aw_iload_n (i := 2) d_X2_readAny_69 rfl rfl ?_
    refine aw_goto (tgt := 82) d_X2_readAny_70 (by decide) ?_
    refine aw_istore_n (i := 2) d_X2_readAny_82 rfl (by decide) ?_
    refine aw_iload_n (i := 3) d_X2_readAny_83 rfl rfl ?_
    refine aw_if_ne (tgt := 93) d_X2_readAny_84 (by decide) (fun c => ?_) (fun c => ?_)
    · have h := h.1 c
      refine aw_aload_n (i := 0) d_X2_readAny_93 rfl rfl ?_
      refine aw_getRv fl_RX2_12 rfl (r := some (10, 0)) (St.get hS 3 0 0 10 0 (by decide)) d_X2_readAny_94 ?_
      refine aw_callV0 (as := []) mw_X9_advance (by decide +kernel) ml_RX2_105 rfl d_X2_readAny_97 rfl (Nat.le_of_ble_eq_true rfl) (AMet.mono h (aw_toV (fun σ13 h => ?_)))
      refine aw_iinc (i := 4) (v := v4 + 1) d_X2_readAny_100 rfl rfl (by decide) ?_
      refine aw_goto (tgt := 7) d_X2_readAny_103 (by decide) ?_
      exact h
    · have h := h.2 c
      refine aw_iload_n (i := 2) d_X2_readAny_87 rfl rfl ?_
      refine aw_if_ne (tgt := 93) d_X2_readAny_88 (by decide) (fun c => ?_) (fun c => ?_)
      · have h := h.1 c
        refine aw_aload_n (i := 0) d_X2_readAny_93 rfl rfl ?_
        refine aw_getRv fl_RX2_12 rfl (r := some (10, 0)) (St.get hS 3 0 0 10 0 (by decide)) d_X2_readAny_94 ?_
        refine aw_callV0 (as := []) mw_X9_advance (by decide +kernel) ml_RX2_105 rfl d_X2_readAny_97 rfl (Nat.le_of_ble_eq_true rfl) (AMet.mono h (aw_toV (fun σ14 h => ?_)))
        refine aw_iinc (i := 4) (v := v4 + 1) d_X2_readAny_100 rfl rfl (by decide) ?_
        refine aw_goto (tgt := 7) d_X2_readAny_103 (by decide) ?_
        exact h
      · have h := h.2 c
        refine aw_iconst (x := 1) d_X2_readAny_91 (by decide) ?_
        exact aw_ret d_X2_readAny_92 rfl (by decide) h
set_option maxRecDepth 20000 in
theorem vc_X2_readOne {G : GG} {l : Launch} {d : Nat} {post : Option AVal → AS → Prop} {σ : AS} {kk nn : Nat} {a1 : Int32} (hS : St σ) (h : AMet G l M_X9_isWord d 0 0 [xR (some (10, 0)), xR (some (30, 4))] σ (retI (fun x2 σ1 => (St σ1 ∧ (((¬ x2 = 0 → (((a1 < 8 → AMet G l M_X9_advance d 0 0 [xR (some (10, 0))] σ1 (retV (fun σ3 => (((¬ x2 = 0 → AMet G l M_X2_readOne d 0 0 [xR (some (3, 0)), xI (a1 + 1)] σ3 (retI (fun x5 σ4 => (St σ4 ∧ (((¬ x5 = 0 → AMet G l M_X7_add d 0 0 [xR (some (8, 1)), xI 800000] σ4 (retV (fun σ6 => post (some (xI 1)) σ6)))) ∧ ((x5 = 0 → post (some (xI 0)) σ4)))))))) ∧ ((x2 = 0 → AMet G l M_X2_readAny d 0 0 [xR (some (3, 0)), xI (a1 + 1)] σ3 (retI (fun x8 σ7 => (St σ7 ∧ (((x8 = 0 → post (some (xI 0)) σ7)) ∧ ((¬ x8 = 0 → AMet G l M_X9_passSign d 0 0 [xR (some (10, 0)), xI 41] σ7 (retI (fun x10 σ9 => (((x10 = 0 → post (some (xI 0)) σ9)) ∧ ((¬ x10 = 0 → post (some (xI 1)) σ9)))))))))))))))))) ∧ ((¬ a1 < 8 → AMet G l M_X9_fail d 0 0 [xR (some (10, 0)), xI 2] σ1 (retI (fun x12 σ11 => (narrow .boolean (.int x12) = .int x12 ∧ post (some (xI x12)) σ11)))))))) ∧ ((x2 = 0 → AMet G l M_X9_isSign d 0 0 [xR (some (10, 0)), xI 40] σ1 (retI (fun x14 σ13 => (St σ13 ∧ (((¬ x14 = 0 → (((a1 < 8 → AMet G l M_X9_advance d 0 0 [xR (some (10, 0))] σ13 (retV (fun σ15 => (((¬ x2 = 0 → AMet G l M_X2_readOne d 0 0 [xR (some (3, 0)), xI (a1 + 1)] σ15 (retI (fun x17 σ16 => (St σ16 ∧ (((¬ x17 = 0 → AMet G l M_X7_add d 0 0 [xR (some (8, 1)), xI 800000] σ16 (retV (fun σ18 => post (some (xI 1)) σ18)))) ∧ ((x17 = 0 → post (some (xI 0)) σ16)))))))) ∧ ((x2 = 0 → AMet G l M_X2_readAny d 0 0 [xR (some (3, 0)), xI (a1 + 1)] σ15 (retI (fun x20 σ19 => (St σ19 ∧ (((x20 = 0 → post (some (xI 0)) σ19)) ∧ ((¬ x20 = 0 → AMet G l M_X9_passSign d 0 0 [xR (some (10, 0)), xI 41] σ19 (retI (fun x22 σ21 => (((x22 = 0 → post (some (xI 0)) σ21)) ∧ ((¬ x22 = 0 → post (some (xI 1)) σ21)))))))))))))))))) ∧ ((¬ a1 < 8 → AMet G l M_X9_fail d 0 0 [xR (some (10, 0)), xI 2] σ13 (retI (fun x24 σ23 => (narrow .boolean (.int x24) = .int x24 ∧ post (some (xI x24)) σ23)))))))) ∧ ((x14 = 0 → AMet G l M_X2_readMark d 0 0 [xR (some (3, 0))] σ13 (retI (fun x26 σ25 => (narrow .boolean (.int x26) = .int x26 ∧ post (some (xI x26)) σ25)))))))))))))))) : AW G l M_X2_readOne (d + 1) post σ kk nn 0 [some (xR (some (3, 0))), some (xI a1), none] [] := by
  refine aw_aload_n (i := 0) d_X2_readOne_0 rfl rfl ?_
  refine aw_getRv fl_RX2_12 rfl (r := some (10, 0)) (St.get hS 3 0 0 10 0 (by decide)) d_X2_readOne_1 ?_
  refine aw_ldcS (tx := "not") (i := 4) (by decide +kernel) (by decide) d_X2_readOne_4 ?_
  refine aw_callV0 (as := [xR (some (30, 4))]) mw_X9_isWord (by decide +kernel) ml_RX2_39 rfl d_X2_readOne_6 rfl (Nat.le_of_ble_eq_true rfl) (AMet.mono h (aw_toI (fun x2 σ1 h => ?_)))
  obtain ⟨hS1, h⟩ := h
  refine aw_istore_n (i := 2) d_X2_readOne_9 rfl (by decide) ?_
  refine aw_iload_n (i := 2) d_X2_readOne_10 rfl rfl ?_
  refine aw_if_ne (tgt := 31) d_X2_readOne_11 (by decide) (fun c => ?_) (fun c => ?_)
  · have h := h.1 c
    refine aw_iload_n (i := 1) d_X2_readOne_31 rfl rfl ?_
    refine aw_bipush (x := 8) d_X2_readOne_32 (by decide) ?_
    refine aw_icmp_lt (tgt := 46) d_X2_readOne_34 (by decide) (fun c => ?_) (fun c => ?_)
    · have h := h.1 c
      refine aw_aload_n (i := 0) d_X2_readOne_46 rfl rfl ?_
      refine aw_getRv fl_RX2_12 rfl (r := some (10, 0)) (St.get hS1 3 0 0 10 0 (by decide)) d_X2_readOne_47 ?_
      refine aw_callV0 (as := []) mw_X9_advance (by decide +kernel) ml_RX2_105 rfl d_X2_readOne_50 rfl (Nat.le_of_ble_eq_true rfl) (AMet.mono h (aw_toV (fun σ3 h => ?_)))
      refine aw_iload_n (i := 2) d_X2_readOne_53 rfl rfl ?_
      refine aw_if_ne (tgt := 85) d_X2_readOne_54 (by decide) (fun c => ?_) (fun c => ?_)
      · have h := h.1 c
        refine aw_aload_n (i := 0) d_X2_readOne_85 rfl rfl ?_
        refine aw_iload_n (i := 1) d_X2_readOne_86 rfl rfl ?_
        refine aw_iconst (x := 1) d_X2_readOne_87 (by decide) ?_
        refine aw_iadd d_X2_readOne_88 ?_
        refine aw_callV0 (as := [xI (a1 + 1)]) mw_X2_readOne (by decide +kernel) ml_RX2_94 rfl d_X2_readOne_89 rfl (Nat.le_of_ble_eq_true rfl) (AMet.mono h (aw_toI (fun x5 σ4 h => ?_)))
        obtain ⟨hS4, h⟩ := h
        refine aw_if_ne (tgt := 97) d_X2_readOne_92 (by decide) (fun c => ?_) (fun c => ?_)
        · have h := h.1 c
          refine aw_aload_n (i := 0) d_X2_readOne_97 rfl rfl ?_
          refine aw_getRv fl_RX2_23 rfl (r := some (8, 1)) (St.get hS4 3 1 0 8 1 (by decide)) d_X2_readOne_98 ?_
          refine aw_ldcI (x := 800000) d_X2_readOne_101 ct_RX2_116 ?_
          refine aw_callV0 (as := [xI 800000]) mw_X7_add (by decide +kernel) ml_RX2_98 rfl d_X2_readOne_103 rfl (Nat.le_of_ble_eq_true rfl) (AMet.mono h (aw_toV (fun σ6 h => ?_)))
          refine aw_iconst (x := 1) d_X2_readOne_106 (by decide) ?_
          exact aw_ret d_X2_readOne_107 rfl (by decide) h
        · have h := h.2 c
          refine aw_iconst (x := 0) d_X2_readOne_95 (by decide) ?_
          exact aw_ret d_X2_readOne_96 rfl (by decide) h
      · have h := h.2 c
        refine aw_aload_n (i := 0) d_X2_readOne_57 rfl rfl ?_
        refine aw_iload_n (i := 1) d_X2_readOne_58 rfl rfl ?_
        refine aw_iconst (x := 1) d_X2_readOne_59 (by decide) ?_
        refine aw_iadd d_X2_readOne_60 ?_
        refine aw_callV0 (as := [xI (a1 + 1)]) mw_X2_readAny (by decide +kernel) ml_RX2_58 rfl d_X2_readOne_61 rfl (Nat.le_of_ble_eq_true rfl) (AMet.mono h (aw_toI (fun x8 σ7 h => ?_)))
        obtain ⟨hS7, h⟩ := h
        refine aw_if_eq (tgt := 83) d_X2_readOne_64 (by decide) (fun c => ?_) (fun c => ?_)
        · have h := h.1 c
          refine aw_iconst (x := 0) d_X2_readOne_83 (by decide) ?_
          exact aw_ret d_X2_readOne_84 rfl (by decide) h
        · have h := h.2 c
          refine aw_aload_n (i := 0) d_X2_readOne_67 rfl rfl ?_
          refine aw_getRv fl_RX2_12 rfl (r := some (10, 0)) (St.get hS7 3 0 0 10 0 (by decide)) d_X2_readOne_68 ?_
          refine aw_bipush (x := 41) d_X2_readOne_71 (by decide) ?_
          refine aw_callV0 (as := [xI 41]) mw_X9_passSign (by decide +kernel) ml_RX2_61 rfl d_X2_readOne_73 rfl (Nat.le_of_ble_eq_true rfl) (AMet.mono h (aw_toI (fun x10 σ9 h => ?_)))
          refine aw_if_eq (tgt := 83) d_X2_readOne_76 (by decide) (fun c => ?_) (fun c => ?_)
          · have h := h.1 c
            refine aw_iconst (x := 0) d_X2_readOne_83 (by decide) ?_
            exact aw_ret d_X2_readOne_84 rfl (by decide) h
          · have h := h.2 c
            refine aw_iconst (x := 1) d_X2_readOne_79 (by decide) ?_
            refine aw_goto (tgt := 84) d_X2_readOne_80 (by decide) ?_
            exact aw_ret d_X2_readOne_84 rfl (by decide) h
    · have h := h.2 c
      refine aw_aload_n (i := 0) d_X2_readOne_37 rfl rfl ?_
      refine aw_getRv fl_RX2_12 rfl (r := some (10, 0)) (St.get hS1 3 0 0 10 0 (by decide)) d_X2_readOne_38 ?_
      refine aw_iconst (x := 2) d_X2_readOne_41 (by decide) ?_
      refine aw_callV0 (as := [xI 2]) mw_X9_fail (by decide +kernel) ml_RX2_43 rfl d_X2_readOne_42 rfl (Nat.le_of_ble_eq_true rfl) (AMet.mono h (aw_toI (fun x12 σ11 h => ?_)))
      exact aw_ret d_X2_readOne_45 rfl h.1 h.2
  · have h := h.2 c
    refine aw_aload_n (i := 0) d_X2_readOne_14 rfl rfl ?_
    refine aw_getRv fl_RX2_12 rfl (r := some (10, 0)) (St.get hS1 3 0 0 10 0 (by decide)) d_X2_readOne_15 ?_
    refine aw_bipush (x := 40) d_X2_readOne_18 (by decide) ?_
    refine aw_callV0 (as := [xI 40]) mw_X9_isSign (by decide +kernel) ml_RX2_110 rfl d_X2_readOne_20 rfl (Nat.le_of_ble_eq_true rfl) (AMet.mono h (aw_toI (fun x14 σ13 h => ?_)))
    obtain ⟨hS13, h⟩ := h
    refine aw_if_ne (tgt := 31) d_X2_readOne_23 (by decide) (fun c => ?_) (fun c => ?_)
    · have h := h.1 c
      refine aw_iload_n (i := 1) d_X2_readOne_31 rfl rfl ?_
      refine aw_bipush (x := 8) d_X2_readOne_32 (by decide) ?_
      refine aw_icmp_lt (tgt := 46) d_X2_readOne_34 (by decide) (fun c => ?_) (fun c => ?_)
      · have h := h.1 c
        refine aw_aload_n (i := 0) d_X2_readOne_46 rfl rfl ?_
        refine aw_getRv fl_RX2_12 rfl (r := some (10, 0)) (St.get hS13 3 0 0 10 0 (by decide)) d_X2_readOne_47 ?_
        refine aw_callV0 (as := []) mw_X9_advance (by decide +kernel) ml_RX2_105 rfl d_X2_readOne_50 rfl (Nat.le_of_ble_eq_true rfl) (AMet.mono h (aw_toV (fun σ15 h => ?_)))
        refine aw_iload_n (i := 2) d_X2_readOne_53 rfl rfl ?_
        refine aw_if_ne (tgt := 85) d_X2_readOne_54 (by decide) (fun c => ?_) (fun c => ?_)
        · have h := h.1 c
          refine aw_aload_n (i := 0) d_X2_readOne_85 rfl rfl ?_
          refine aw_iload_n (i := 1) d_X2_readOne_86 rfl rfl ?_
          refine aw_iconst (x := 1) d_X2_readOne_87 (by decide) ?_
          refine aw_iadd d_X2_readOne_88 ?_
          refine aw_callV0 (as := [xI (a1 + 1)]) mw_X2_readOne (by decide +kernel) ml_RX2_94 rfl d_X2_readOne_89 rfl (Nat.le_of_ble_eq_true rfl) (AMet.mono h (aw_toI (fun x17 σ16 h => ?_)))
          obtain ⟨hS16, h⟩ := h
          refine aw_if_ne (tgt := 97) d_X2_readOne_92 (by decide) (fun c => ?_) (fun c => ?_)
          · have h := h.1 c
            refine aw_aload_n (i := 0) d_X2_readOne_97 rfl rfl ?_
            refine aw_getRv fl_RX2_23 rfl (r := some (8, 1)) (St.get hS16 3 1 0 8 1 (by decide)) d_X2_readOne_98 ?_
            refine aw_ldcI (x := 800000) d_X2_readOne_101 ct_RX2_116 ?_
            refine aw_callV0 (as := [xI 800000]) mw_X7_add (by decide +kernel) ml_RX2_98 rfl d_X2_readOne_103 rfl (Nat.le_of_ble_eq_true rfl) (AMet.mono h (aw_toV (fun σ18 h => ?_)))
            refine aw_iconst (x := 1) d_X2_readOne_106 (by decide) ?_
            exact aw_ret d_X2_readOne_107 rfl (by decide) h
          · have h := h.2 c
            refine aw_iconst (x := 0) d_X2_readOne_95 (by decide) ?_
            exact aw_ret d_X2_readOne_96 rfl (by decide) h
        · have h := h.2 c
          refine aw_aload_n (i := 0) d_X2_readOne_57 rfl rfl ?_
          refine aw_iload_n (i := 1) d_X2_readOne_58 rfl rfl ?_
          refine aw_iconst (x := 1) d_X2_readOne_59 (by decide) ?_
          refine aw_iadd d_X2_readOne_60 ?_
          refine aw_callV0 (as := [xI (a1 + 1)]) mw_X2_readAny (by decide +kernel) ml_RX2_58 rfl d_X2_readOne_61 rfl (Nat.le_of_ble_eq_true rfl) (AMet.mono h (aw_toI (fun x20 σ19 h => ?_)))
          obtain ⟨hS19, h⟩ := h
          refine aw_if_eq (tgt := 83) d_X2_readOne_64 (by decide) (fun c => ?_) (fun c => ?_)
          · have h := h.1 c
            refine aw_iconst (x := 0) d_X2_readOne_83 (by decide) ?_
            exact aw_ret d_X2_readOne_84 rfl (by decide) h
          · have h := h.2 c
            refine aw_aload_n (i := 0) d_X2_readOne_67 rfl rfl ?_
            refine aw_getRv fl_RX2_12 rfl (r := some (10, 0)) (St.get hS19 3 0 0 10 0 (by decide)) d_X2_readOne_68 ?_
            refine aw_bipush (x := 41) d_X2_readOne_71 (by decide) ?_
            refine aw_callV0 (as := [xI 41]) mw_X9_passSign (by decide +kernel) ml_RX2_61 rfl d_X2_readOne_73 rfl (Nat.le_of_ble_eq_true rfl) (AMet.mono h (aw_toI (fun x22 σ21 h => ?_)))
            refine aw_if_eq (tgt := 83) d_X2_readOne_76 (by decide) (fun c => ?_) (fun c => ?_)
            · have h := h.1 c
              refine aw_iconst (x := 0) d_X2_readOne_83 (by decide) ?_
              exact aw_ret d_X2_readOne_84 rfl (by decide) h
            · have h := h.2 c
              refine aw_iconst (x := 1) d_X2_readOne_79 (by decide) ?_
              refine aw_goto (tgt := 84) d_X2_readOne_80 (by decide) ?_
              exact aw_ret d_X2_readOne_84 rfl (by decide) h
      · have h := h.2 c
        refine aw_aload_n (i := 0) d_X2_readOne_37 rfl rfl ?_
        refine aw_getRv fl_RX2_12 rfl (r := some (10, 0)) (St.get hS13 3 0 0 10 0 (by decide)) d_X2_readOne_38 ?_
        refine aw_iconst (x := 2) d_X2_readOne_41 (by decide) ?_
        refine aw_callV0 (as := [xI 2]) mw_X9_fail (by decide +kernel) ml_RX2_43 rfl d_X2_readOne_42 rfl (Nat.le_of_ble_eq_true rfl) (AMet.mono h (aw_toI (fun x24 σ23 h => ?_)))
        exact aw_ret d_X2_readOne_45 rfl h.1 h.2
    · have h := h.2 c
      refine aw_aload_n (i := 0) d_X2_readOne_26 rfl rfl ?_
      refine aw_callV0 (as := []) mw_X2_readMark (by decide +kernel) ml_RX2_113 rfl d_X2_readOne_27 rfl (Nat.le_of_ble_eq_true rfl) (AMet.mono h (aw_toI (fun x26 σ25 h => ?_)))
      exact aw_ret d_X2_readOne_30 rfl h.1 h.2
set_option maxRecDepth 20000 in
theorem vc_X2_readMark {G : GG} {l : Launch} {d : Nat} {post : Option AVal → AS → Prop} {σ : AS} {kk nn : Nat}  (h : AMet G l M_X2_markHere d 0 0 [xR (some (3, 0))] σ (retI (fun x2 σ1 => (St σ1 ∧ (((¬ x2 = (-1) → AMet G l M_X9_advance d 0 0 [xR (some (10, 0))] σ1 (retV (fun σ3 => (((x2 = 4 → AW G l M_X2_readMark (d + 1) post σ3 kk nn 37 [some (xR (some (3, 0))), some (xI x2), none] [])) ∧ ((¬ x2 = 4 → (((¬ x2 = 6 → AW G l M_X2_readMark (d + 1) post σ3 kk nn 91 [some (xR (some (3, 0))), some (xI x2), none] [])) ∧ ((x2 = 6 → AW G l M_X2_readMark (d + 1) post σ3 kk nn 37 [some (xR (some (3, 0))), some (xI x2), none] [])))))))))) ∧ ((x2 = (-1) → AMet G l M_X9_fail d 0 0 [xR (some (10, 0)), xI 1] σ1 (retI (fun x5 σ4 => (narrow .boolean (.int x5) = .int x5 ∧ post (some (xI x5)) σ4)))))))))) : AW G l M_X2_readMark (d + 1) post σ kk nn 0 [some (xR (some (3, 0))), none, none] [] := by
  refine aw_aload_n (i := 0) d_X2_readMark_0 rfl rfl ?_
  refine aw_callV0 (as := []) mw_X2_markHere (by decide +kernel) ml_RX2_117 rfl d_X2_readMark_1 rfl (Nat.le_of_ble_eq_true rfl) (AMet.mono h (aw_toI (fun x2 σ1 h => ?_)))
  obtain ⟨hS1, h⟩ := h
  refine aw_istore_n (i := 1) d_X2_readMark_4 rfl (by decide) ?_
  refine aw_iload_n (i := 1) d_X2_readMark_5 rfl rfl ?_
  refine aw_iconst (x := -1) d_X2_readMark_6 (by decide) ?_
  refine aw_icmp_ne (tgt := 19) d_X2_readMark_7 (by decide) (fun c => ?_) (fun c => ?_)
  · have h := h.1 c
    refine aw_aload_n (i := 0) d_X2_readMark_19 rfl rfl ?_
    refine aw_getRv fl_RX2_12 rfl (r := some (10, 0)) (St.get hS1 3 0 0 10 0 (by decide)) d_X2_readMark_20 ?_
    refine aw_callV0 (as := []) mw_X9_advance (by decide +kernel) ml_RX2_105 rfl d_X2_readMark_23 rfl (Nat.le_of_ble_eq_true rfl) (AMet.mono h (aw_toV (fun σ3 h => ?_)))
    refine aw_iload_n (i := 1) d_X2_readMark_26 rfl rfl ?_
    refine aw_iconst (x := 4) d_X2_readMark_27 (by decide) ?_
    refine aw_icmp_eq (tgt := 37) d_X2_readMark_28 (by decide) (fun c => ?_) (fun c => ?_)
    · have h := h.1 c
      exact h
    · have h := h.2 c
      refine aw_iload_n (i := 1) d_X2_readMark_31 rfl rfl ?_
      refine aw_bipush (x := 6) d_X2_readMark_32 (by decide) ?_
      refine aw_icmp_ne (tgt := 91) d_X2_readMark_34 (by decide) (fun c => ?_) (fun c => ?_)
      · have h := h.1 c
        exact h
      · have h := h.2 c
        exact h
  · have h := h.2 c
    refine aw_aload_n (i := 0) d_X2_readMark_10 rfl rfl ?_
    refine aw_getRv fl_RX2_12 rfl (r := some (10, 0)) (St.get hS1 3 0 0 10 0 (by decide)) d_X2_readMark_11 ?_
    refine aw_iconst (x := 1) d_X2_readMark_14 (by decide) ?_
    refine aw_callV0 (as := [xI 1]) mw_X9_fail (by decide +kernel) ml_RX2_43 rfl d_X2_readMark_15 rfl (Nat.le_of_ble_eq_true rfl) (AMet.mono h (aw_toI (fun x5 σ4 h => ?_)))
    exact aw_ret d_X2_readMark_18 rfl h.1 h.2
set_option maxRecDepth 20000 in
theorem vc_X2_readMark_37 {G : GG} {l : Launch} {d : Nat} {post : Option AVal → AS → Prop} {σ : AS} {kk nn : Nat} {v1 : Int32} (hS : St σ) (h : AMet G l M_X9_isSign d 0 0 [xR (some (10, 0)), xI 60] σ (retI (fun x7 σ6 => (St σ6 ∧ (((¬ x7 = 0 → AW G l M_X2_readMark (d + 1) post σ6 kk nn 72 [some (xR (some (3, 0))), some (xI v1), some (xI x7)] [])) ∧ ((x7 = 0 → AMet G l M_X9_isSign d 0 0 [xR (some (10, 0)), xI 62] σ6 (retI (fun x9 σ8 => (St σ8 ∧ (((¬ x9 = 0 → AW G l M_X2_readMark (d + 1) post σ8 kk nn 72 [some (xR (some (3, 0))), some (xI v1), some (xI x7)] [])) ∧ ((x9 = 0 → AMet G l M_X9_fail d 0 0 [xR (some (10, 0)), xI 1] σ8 (retI (fun x11 σ10 => (narrow .boolean (.int x11) = .int x11 ∧ post (some (xI x11)) σ10)))))))))))))))) : AW G l M_X2_readMark (d + 1) post σ kk nn 37 [some (xR (some (3, 0))), some (xI v1), none] [] := by
  refine aw_aload_n (i := 0) d_X2_readMark_37 rfl rfl ?_
  refine aw_getRv fl_RX2_12 rfl (r := some (10, 0)) (St.get hS 3 0 0 10 0 (by decide)) d_X2_readMark_38 ?_
  refine aw_bipush (x := 60) d_X2_readMark_41 (by decide) ?_
  refine aw_callV0 (as := [xI 60]) mw_X9_isSign (by decide +kernel) ml_RX2_110 rfl d_X2_readMark_43 rfl (Nat.le_of_ble_eq_true rfl) (AMet.mono h (aw_toI (fun x7 σ6 h => ?_)))
  obtain ⟨hS6, h⟩ := h
  refine aw_istore_n (i := 2) d_X2_readMark_46 rfl (by decide) ?_
  refine aw_iload_n (i := 2) d_X2_readMark_47 rfl rfl ?_
  refine aw_if_ne (tgt := 72) d_X2_readMark_48 (by decide) (fun c => ?_) (fun c => ?_)
  · have h := h.1 c
    exact h
  · have h := h.2 c
    refine aw_aload_n (i := 0) d_X2_readMark_51 rfl rfl ?_
    refine aw_getRv fl_RX2_12 rfl (r := some (10, 0)) (St.get hS6 3 0 0 10 0 (by decide)) d_X2_readMark_52 ?_
    refine aw_bipush (x := 62) d_X2_readMark_55 (by decide) ?_
    refine aw_callV0 (as := [xI 62]) mw_X9_isSign (by decide +kernel) ml_RX2_110 rfl d_X2_readMark_57 rfl (Nat.le_of_ble_eq_true rfl) (AMet.mono h (aw_toI (fun x9 σ8 h => ?_)))
    obtain ⟨hS8, h⟩ := h
    refine aw_if_ne (tgt := 72) d_X2_readMark_60 (by decide) (fun c => ?_) (fun c => ?_)
    · have h := h.1 c
      exact h
    · have h := h.2 c
      refine aw_aload_n (i := 0) d_X2_readMark_63 rfl rfl ?_
      refine aw_getRv fl_RX2_12 rfl (r := some (10, 0)) (St.get hS8 3 0 0 10 0 (by decide)) d_X2_readMark_64 ?_
      refine aw_iconst (x := 1) d_X2_readMark_67 (by decide) ?_
      refine aw_callV0 (as := [xI 1]) mw_X9_fail (by decide +kernel) ml_RX2_43 rfl d_X2_readMark_68 rfl (Nat.le_of_ble_eq_true rfl) (AMet.mono h (aw_toI (fun x11 σ10 h => ?_)))
      exact aw_ret d_X2_readMark_71 rfl h.1 h.2
set_option maxRecDepth 20000 in
theorem vc_X2_readMark_72 {G : GG} {l : Launch} {d : Nat} {post : Option AVal → AS → Prop} {σ : AS} {kk nn : Nat} {v1 : Int32} {v2 : Int32} (hS : St σ) (h : AMet G l M_X9_advance d 0 0 [xR (some (10, 0))] σ (retV (fun σ12 => (((v2 = 0 → AW G l M_X2_readMark (d + 1) post σ12 kk nn 91 [some (xR (some (3, 0))), some (xI (v1 + 1)), none] [])) ∧ ((¬ v2 = 0 → AW G l M_X2_readMark (d + 1) post σ12 kk nn 91 [some (xR (some (3, 0))), some (xI v1), none] [])))))) : AW G l M_X2_readMark (d + 1) post σ kk nn 72 [some (xR (some (3, 0))), some (xI v1), some (xI v2)] [] := by
  refine aw_aload_n (i := 0) d_X2_readMark_72 rfl rfl ?_
  refine aw_getRv fl_RX2_12 rfl (r := some (10, 0)) (St.get hS 3 0 0 10 0 (by decide)) d_X2_readMark_73 ?_
  refine aw_callV0 (as := []) mw_X9_advance (by decide +kernel) ml_RX2_105 rfl d_X2_readMark_76 rfl (Nat.le_of_ble_eq_true rfl) (AMet.mono h (aw_toV (fun σ12 h => ?_)))
  refine aw_iload_n (i := 2) d_X2_readMark_79 rfl rfl ?_
  refine aw_if_eq (tgt := 87) d_X2_readMark_80 (by decide) (fun c => ?_) (fun c => ?_)
  · have h := h.1 c
    refine aw_iload_n (i := 1) d_X2_readMark_87 rfl rfl ?_
    refine aw_iconst (x := 1) d_X2_readMark_88 (by decide) ?_
    refine aw_iadd d_X2_readMark_89 ?_
    refine aw_istore_n (i := 1) d_X2_readMark_90 rfl (by decide) ?_
    exact AW.weak h (by exact ⟨rfl, ⟨rfl, trivial⟩⟩)
  · have h := h.2 c
    refine aw_iload_n (i := 1) d_X2_readMark_83 rfl rfl ?_
    refine aw_goto (tgt := 90) d_X2_readMark_84 (by decide) ?_
    refine aw_istore_n (i := 1) d_X2_readMark_90 rfl (by decide) ?_
    exact AW.weak h (by exact ⟨rfl, ⟨rfl, trivial⟩⟩)
set_option maxRecDepth 20000 in
theorem vc_X2_readMark_91 {G : GG} {l : Launch} {d : Nat} {post : Option AVal → AS → Prop} {σ : AS} {kk nn : Nat} {v1 : Int32} (hS : St σ) (h : (((¬ v1 = 0 → AMet G l M_X1_highest d 0 0 [xI v1] σ (retI (fun x14 σ13 => AMet G l M_X9_passNumber d 0 0 [xR (some (10, 0)), xI 0, xI x14] σ13 (retI (fun x16 σ15 => (St σ15 ∧ (((¬ x16 = (-1) → AMet G l M_X7_add d 0 0 [xR (some (8, 1)), xI ((v1 * 100000) + x16)] σ15 (retV (fun σ17 => post (some (xI 1)) σ17)))) ∧ ((x16 = (-1) → post (some (xI 0)) σ15)))))))))) ∧ ((v1 = 0 → AMet G l M_X7_add d 0 0 [xR (some (8, 1)), xI ((v1 * 100000) + 0)] σ (retV (fun σ18 => post (some (xI 1)) σ18)))))) : AW G l M_X2_readMark (d + 1) post σ kk nn 91 [some (xR (some (3, 0))), some (xI v1), none] [] := by
  refine aw_iload_n (i := 1) d_X2_readMark_91 rfl rfl ?_
  refine aw_if_ne (tgt := 99) d_X2_readMark_92 (by decide) (fun c => ?_) (fun c => ?_)
  · have h := h.1 c
    refine aw_aload_n (i := 0) d_X2_readMark_99 rfl rfl ?_
    refine aw_getRv fl_RX2_12 rfl (r := some (10, 0)) (St.get hS 3 0 0 10 0 (by decide)) d_X2_readMark_100 ?_
    refine aw_iconst (x := 0) d_X2_readMark_103 (by decide) ?_
    refine aw_iload_n (i := 1) d_X2_readMark_104 rfl rfl ?_
    refine aw_callS0 (as := [xI v1]) mw_X1_highest ml_RX2_121 rfl d_X2_readMark_105 rfl (Nat.le_of_ble_eq_true rfl) (AMet.mono h (aw_toI (fun x14 σ13 h => ?_)))
    refine aw_callV0 (as := [xI 0, xI x14]) mw_X9_passNumber (by decide +kernel) ml_RX2_125 rfl d_X2_readMark_108 rfl (Nat.le_of_ble_eq_true rfl) (AMet.mono h (aw_toI (fun x16 σ15 h => ?_)))
    obtain ⟨hS15, h⟩ := h
    refine aw_istore_n (i := 2) d_X2_readMark_111 rfl (by decide) ?_
    refine aw_iload_n (i := 2) d_X2_readMark_112 rfl rfl ?_
    refine aw_iconst (x := -1) d_X2_readMark_113 (by decide) ?_
    refine aw_icmp_ne (tgt := 119) d_X2_readMark_114 (by decide) (fun c => ?_) (fun c => ?_)
    · have h := h.1 c
      refine aw_aload_n (i := 0) d_X2_readMark_119 rfl rfl ?_
      refine aw_getRv fl_RX2_23 rfl (r := some (8, 1)) (St.get hS15 3 1 0 8 1 (by decide)) d_X2_readMark_120 ?_
      refine aw_iload_n (i := 1) d_X2_readMark_123 rfl rfl ?_
      refine aw_ldcI (x := 100000) d_X2_readMark_124 ct_RX2_129 ?_
      refine aw_imul d_X2_readMark_126 ?_
      refine aw_iload_n (i := 2) d_X2_readMark_127 rfl rfl ?_
      refine aw_iadd d_X2_readMark_128 ?_
      refine aw_callV0 (as := [xI ((v1 * 100000) + x16)]) mw_X7_add (by decide +kernel) ml_RX2_98 rfl d_X2_readMark_129 rfl (Nat.le_of_ble_eq_true rfl) (AMet.mono h (aw_toV (fun σ17 h => ?_)))
      refine aw_iconst (x := 1) d_X2_readMark_132 (by decide) ?_
      exact aw_ret d_X2_readMark_133 rfl (by decide) h
    · have h := h.2 c
      refine aw_iconst (x := 0) d_X2_readMark_117 (by decide) ?_
      exact aw_ret d_X2_readMark_118 rfl (by decide) h
  · have h := h.2 c
    refine aw_iconst (x := 0) d_X2_readMark_95 (by decide) ?_
    refine aw_goto (tgt := 111) d_X2_readMark_96 (by decide) ?_
    refine aw_istore_n (i := 2) d_X2_readMark_111 rfl (by decide) ?_
    refine aw_iload_n (i := 2) d_X2_readMark_112 rfl rfl ?_
    refine aw_iconst (x := -1) d_X2_readMark_113 (by decide) ?_
    refine aw_icmp_ne (tgt := 119) d_X2_readMark_114 (by decide) (fun _ => ?_) (fun c => absurd c (by decide))
    refine aw_aload_n (i := 0) d_X2_readMark_119 rfl rfl ?_
    refine aw_getRv fl_RX2_23 rfl (r := some (8, 1)) (St.get hS 3 1 0 8 1 (by decide)) d_X2_readMark_120 ?_
    refine aw_iload_n (i := 1) d_X2_readMark_123 rfl rfl ?_
    refine aw_ldcI (x := 100000) d_X2_readMark_124 ct_RX2_129 ?_
    refine aw_imul d_X2_readMark_126 ?_
    refine aw_iload_n (i := 2) d_X2_readMark_127 rfl rfl ?_
    refine aw_iadd d_X2_readMark_128 ?_
    refine aw_callV0 (as := [xI ((v1 * 100000) + 0)]) mw_X7_add (by decide +kernel) ml_RX2_98 rfl d_X2_readMark_129 rfl (Nat.le_of_ble_eq_true rfl) (AMet.mono h (aw_toV (fun σ18 h => ?_)))
    refine aw_iconst (x := 1) d_X2_readMark_132 (by decide) ?_
    exact aw_ret d_X2_readMark_133 rfl (by decide) h
set_option maxRecDepth 20000 in
theorem vc_X2_markHere {G : GG} {l : Launch} {d : Nat} {post : Option AVal → AS → Prop} {σ : AS} {kk nn : Nat}  (hS : St σ) (h : AMet G l M_X9_isWord d 0 0 [xR (some (10, 0)), xR (some (30, 5))] σ (retI (fun x2 σ1 => (St σ1 ∧ (((x2 = 0 → AMet G l M_X9_isWord d 0 0 [xR (some (10, 0)), xR (some (30, 6))] σ1 (retI (fun x4 σ3 => (St σ3 ∧ (((x4 = 0 → AMet G l M_X9_isWord d 0 0 [xR (some (10, 0)), xR (some (30, 7))] σ3 (retI (fun x6 σ5 => (St σ5 ∧ (((x6 = 0 → AMet G l M_X9_isWord d 0 0 [xR (some (10, 0)), xR (some (30, 8))] σ5 (retI (fun x8 σ7 => (St σ7 ∧ (((x8 = 0 → AMet G l M_X9_isWord d 0 0 [xR (some (10, 0)), xR (some (30, 9))] σ7 (retI (fun x10 σ9 => (St σ9 ∧ (((x10 = 0 → AMet G l M_X9_isWord d 0 0 [xR (some (10, 0)), xR (some (30, 10))] σ9 (retI (fun x12 σ11 => (((x12 = 0 → post (some (xI (-1))) σ11)) ∧ ((¬ x12 = 0 → post (some (xI 6)) σ11))))))) ∧ ((¬ x10 = 0 → post (some (xI 4)) σ9)))))))) ∧ ((¬ x8 = 0 → post (some (xI 3)) σ7)))))))) ∧ ((¬ x6 = 0 → post (some (xI 2)) σ5)))))))) ∧ ((¬ x4 = 0 → post (some (xI 1)) σ3)))))))) ∧ ((¬ x2 = 0 → post (some (xI 0)) σ1))))))) : AW G l M_X2_markHere (d + 1) post σ kk nn 0 [some (xR (some (3, 0)))] [] := by
  refine aw_aload_n (i := 0) d_X2_markHere_0 rfl rfl ?_
  refine aw_getRv fl_RX2_12 rfl (r := some (10, 0)) (St.get hS 3 0 0 10 0 (by decide)) d_X2_markHere_1 ?_
  refine aw_ldcS (tx := "anyone") (i := 5) (by decide +kernel) (by decide) d_X2_markHere_4 ?_
  refine aw_callV0 (as := [xR (some (30, 5))]) mw_X9_isWord (by decide +kernel) ml_RX2_39 rfl d_X2_markHere_6 rfl (Nat.le_of_ble_eq_true rfl) (AMet.mono h (aw_toI (fun x2 σ1 h => ?_)))
  obtain ⟨hS1, h⟩ := h
  refine aw_if_eq (tgt := 14) d_X2_markHere_9 (by decide) (fun c => ?_) (fun c => ?_)
  · have h := h.1 c
    refine aw_aload_n (i := 0) d_X2_markHere_14 rfl rfl ?_
    refine aw_getRv fl_RX2_12 rfl (r := some (10, 0)) (St.get hS1 3 0 0 10 0 (by decide)) d_X2_markHere_15 ?_
    refine aw_ldcS (tx := "look") (i := 6) (by decide +kernel) (by decide) d_X2_markHere_18 ?_
    refine aw_callV0 (as := [xR (some (30, 6))]) mw_X9_isWord (by decide +kernel) ml_RX2_39 rfl d_X2_markHere_20 rfl (Nat.le_of_ble_eq_true rfl) (AMet.mono h (aw_toI (fun x4 σ3 h => ?_)))
    obtain ⟨hS3, h⟩ := h
    refine aw_if_eq (tgt := 28) d_X2_markHere_23 (by decide) (fun c => ?_) (fun c => ?_)
    · have h := h.1 c
      refine aw_aload_n (i := 0) d_X2_markHere_28 rfl rfl ?_
      refine aw_getRv fl_RX2_12 rfl (r := some (10, 0)) (St.get hS3 3 0 0 10 0 (by decide)) d_X2_markHere_29 ?_
      refine aw_ldcS (tx := "home") (i := 7) (by decide +kernel) (by decide) d_X2_markHere_32 ?_
      refine aw_callV0 (as := [xR (some (30, 7))]) mw_X9_isWord (by decide +kernel) ml_RX2_39 rfl d_X2_markHere_34 rfl (Nat.le_of_ble_eq_true rfl) (AMet.mono h (aw_toI (fun x6 σ5 h => ?_)))
      obtain ⟨hS5, h⟩ := h
      refine aw_if_eq (tgt := 42) d_X2_markHere_37 (by decide) (fun c => ?_) (fun c => ?_)
      · have h := h.1 c
        refine aw_aload_n (i := 0) d_X2_markHere_42 rfl rfl ?_
        refine aw_getRv fl_RX2_12 rfl (r := some (10, 0)) (St.get hS5 3 0 0 10 0 (by decide)) d_X2_markHere_43 ?_
        refine aw_ldcS (tx := "seen") (i := 8) (by decide +kernel) (by decide) d_X2_markHere_46 ?_
        refine aw_callV0 (as := [xR (some (30, 8))]) mw_X9_isWord (by decide +kernel) ml_RX2_39 rfl d_X2_markHere_48 rfl (Nat.le_of_ble_eq_true rfl) (AMet.mono h (aw_toI (fun x8 σ7 h => ?_)))
        obtain ⟨hS7, h⟩ := h
        refine aw_if_eq (tgt := 56) d_X2_markHere_51 (by decide) (fun c => ?_) (fun c => ?_)
        · have h := h.1 c
          refine aw_aload_n (i := 0) d_X2_markHere_56 rfl rfl ?_
          refine aw_getRv fl_RX2_12 rfl (r := some (10, 0)) (St.get hS7 3 0 0 10 0 (by decide)) d_X2_markHere_57 ?_
          refine aw_ldcS (tx := "age") (i := 9) (by decide +kernel) (by decide) d_X2_markHere_60 ?_
          refine aw_callV0 (as := [xR (some (30, 9))]) mw_X9_isWord (by decide +kernel) ml_RX2_39 rfl d_X2_markHere_62 rfl (Nat.le_of_ble_eq_true rfl) (AMet.mono h (aw_toI (fun x10 σ9 h => ?_)))
          obtain ⟨hS9, h⟩ := h
          refine aw_if_eq (tgt := 70) d_X2_markHere_65 (by decide) (fun c => ?_) (fun c => ?_)
          · have h := h.1 c
            refine aw_aload_n (i := 0) d_X2_markHere_70 rfl rfl ?_
            refine aw_getRv fl_RX2_12 rfl (r := some (10, 0)) (St.get hS9 3 0 0 10 0 (by decide)) d_X2_markHere_71 ?_
            refine aw_ldcS (tx := "tall") (i := 10) (by decide +kernel) (by decide) d_X2_markHere_74 ?_
            refine aw_callV0 (as := [xR (some (30, 10))]) mw_X9_isWord (by decide +kernel) ml_RX2_39 rfl d_X2_markHere_76 rfl (Nat.le_of_ble_eq_true rfl) (AMet.mono h (aw_toI (fun x12 σ11 h => ?_)))
            refine aw_if_eq (tgt := 87) d_X2_markHere_79 (by decide) (fun c => ?_) (fun c => ?_)
            · have h := h.1 c
              refine aw_iconst (x := -1) d_X2_markHere_87 (by decide) ?_
              exact aw_ret d_X2_markHere_88 rfl rfl h
            · have h := h.2 c
              refine aw_bipush (x := 6) d_X2_markHere_82 (by decide) ?_
              refine aw_goto (tgt := 88) d_X2_markHere_84 (by decide) ?_
              exact aw_ret d_X2_markHere_88 rfl rfl h
          · have h := h.2 c
            refine aw_iconst (x := 4) d_X2_markHere_68 (by decide) ?_
            exact aw_ret d_X2_markHere_69 rfl rfl h
        · have h := h.2 c
          refine aw_iconst (x := 3) d_X2_markHere_54 (by decide) ?_
          exact aw_ret d_X2_markHere_55 rfl rfl h
      · have h := h.2 c
        refine aw_iconst (x := 2) d_X2_markHere_40 (by decide) ?_
        exact aw_ret d_X2_markHere_41 rfl rfl h
    · have h := h.2 c
      refine aw_iconst (x := 1) d_X2_markHere_26 (by decide) ?_
      exact aw_ret d_X2_markHere_27 rfl rfl h
  · have h := h.2 c
    refine aw_iconst (x := 0) d_X2_markHere_12 (by decide) ?_
    exact aw_ret d_X2_markHere_13 rfl rfl h
set_option maxRecDepth 20000 in
theorem vc_X8_init {G : GG} {l : Launch} {d : Nat} {post : Option AVal → AS → Prop} {σ : AS} {kk nn : Nat} {i0 : Nat} {a1 : Int32} (h : post none (sI σ 9 0 i0 a1)) : AW G l M_X8_init (d + 1) post σ kk nn 0 [some (xR (some (9, i0))), some (xI a1)] [] := by
  refine aw_aload_n (i := 0) d_X8_init_0 rfl rfl ?_
  refine aw_objInit oi_RX8_3 d_X8_init_1 (Nat.le_of_ble_eq_true rfl) ?_
  refine aw_aload_n (i := 0) d_X8_init_4 rfl rfl ?_
  refine aw_iload_n (i := 1) d_X8_init_5 rfl rfl ?_
  refine aw_putI fl_RX8_9 (by decide) (fin_init (r := (RX8, TX8, 4)) rfl rfl rfl) d_X8_init_6 rfl ⟨rfl, rfl⟩ ?_
  exact aw_vret d_X8_init_9 rfl h
set_option maxRecDepth 20000 in
theorem vc_X8_kindAt {G : GG} {l : Launch} {d : Nat} {post : Option AVal → AS → Prop} {σ : AS} {kk nn : Nat} {p1 : Nat} (h : AMet G l M_X9_isWord d 0 0 [xR (some (10, p1)), xR (some (30, 13))] σ (retI (fun x2 σ1 => (((x2 = 0 → AMet G l M_X9_isWord d 0 0 [xR (some (10, p1)), xR (some (30, 14))] σ1 (retI (fun x4 σ3 => (((x4 = 0 → AMet G l M_X9_isWord d 0 0 [xR (some (10, p1)), xR (some (30, 15))] σ3 (retI (fun x6 σ5 => (((x6 = 0 → AMet G l M_X9_isWord d 0 0 [xR (some (10, p1)), xR (some (30, 16))] σ5 (retI (fun x8 σ7 => (((x8 = 0 → post (some (xI (-1))) σ7)) ∧ ((¬ x8 = 0 → post (some (xI 3)) σ7))))))) ∧ ((¬ x6 = 0 → post (some (xI 2)) σ5))))))) ∧ ((¬ x4 = 0 → post (some (xI 1)) σ3))))))) ∧ ((¬ x2 = 0 → post (some (xI 0)) σ1)))))) : AW G l M_X8_kindAt (d + 1) post σ kk nn 0 [some (xR (some (10, p1)))] [] := by
  refine aw_aload_n (i := 0) d_X8_kindAt_0 rfl rfl ?_
  refine aw_ldcS (tx := "base") (i := 13) (by decide +kernel) (by decide) d_X8_kindAt_1 ?_
  refine aw_callV0 (as := [xR (some (30, 13))]) mw_X9_isWord (by decide +kernel) ml_RX8_17 rfl d_X8_kindAt_3 rfl (Nat.le_of_ble_eq_true rfl) (AMet.mono h (aw_toI (fun x2 σ1 h => ?_)))
  refine aw_if_eq (tgt := 11) d_X8_kindAt_6 (by decide) (fun c => ?_) (fun c => ?_)
  · have h := h.1 c
    refine aw_aload_n (i := 0) d_X8_kindAt_11 rfl rfl ?_
    refine aw_ldcS (tx := "over") (i := 14) (by decide +kernel) (by decide) d_X8_kindAt_12 ?_
    refine aw_callV0 (as := [xR (some (30, 14))]) mw_X9_isWord (by decide +kernel) ml_RX8_17 rfl d_X8_kindAt_14 rfl (Nat.le_of_ble_eq_true rfl) (AMet.mono h (aw_toI (fun x4 σ3 h => ?_)))
    refine aw_if_eq (tgt := 22) d_X8_kindAt_17 (by decide) (fun c => ?_) (fun c => ?_)
    · have h := h.1 c
      refine aw_aload_n (i := 0) d_X8_kindAt_22 rfl rfl ?_
      refine aw_ldcS (tx := "before") (i := 15) (by decide +kernel) (by decide) d_X8_kindAt_23 ?_
      refine aw_callV0 (as := [xR (some (30, 15))]) mw_X9_isWord (by decide +kernel) ml_RX8_17 rfl d_X8_kindAt_25 rfl (Nat.le_of_ble_eq_true rfl) (AMet.mono h (aw_toI (fun x6 σ5 h => ?_)))
      refine aw_if_eq (tgt := 33) d_X8_kindAt_28 (by decide) (fun c => ?_) (fun c => ?_)
      · have h := h.1 c
        refine aw_aload_n (i := 0) d_X8_kindAt_33 rfl rfl ?_
        refine aw_ldcS (tx := "after") (i := 16) (by decide +kernel) (by decide) d_X8_kindAt_34 ?_
        refine aw_callV0 (as := [xR (some (30, 16))]) mw_X9_isWord (by decide +kernel) ml_RX8_17 rfl d_X8_kindAt_36 rfl (Nat.le_of_ble_eq_true rfl) (AMet.mono h (aw_toI (fun x8 σ7 h => ?_)))
        refine aw_if_eq (tgt := 46) d_X8_kindAt_39 (by decide) (fun c => ?_) (fun c => ?_)
        · have h := h.1 c
          refine aw_iconst (x := -1) d_X8_kindAt_46 (by decide) ?_
          exact aw_ret d_X8_kindAt_47 rfl rfl h
        · have h := h.2 c
          refine aw_iconst (x := 3) d_X8_kindAt_42 (by decide) ?_
          refine aw_goto (tgt := 47) d_X8_kindAt_43 (by decide) ?_
          exact aw_ret d_X8_kindAt_47 rfl rfl h
      · have h := h.2 c
        refine aw_iconst (x := 2) d_X8_kindAt_31 (by decide) ?_
        exact aw_ret d_X8_kindAt_32 rfl rfl h
    · have h := h.2 c
      refine aw_iconst (x := 1) d_X8_kindAt_20 (by decide) ?_
      exact aw_ret d_X8_kindAt_21 rfl rfl h
  · have h := h.2 c
    refine aw_iconst (x := 0) d_X8_kindAt_9 (by decide) ?_
    exact aw_ret d_X8_kindAt_10 rfl rfl h
set_option maxRecDepth 20000 in
theorem vc_X8_readNumbers {G : GG} {l : Launch} {d : Nat} {post : Option AVal → AS → Prop} {σ : AS} {kk nn : Nat} {i0 : Nat} {p1 : Nat} (h : (((¬ (gI σ 9 0 i0) = 0 → AMet G l M_X9_passNumber d 0 0 [xR (some (10, p1)), xI 0, xI 99999] σ (retI (fun x2 σ1 => (((¬ x2 = (-1) → AMet G l M_X9_passNumberAfter d 0 0 [xR (some (10, p1)), xR (some (30, 17)), xI 0, xI 99999] (sI σ1 9 1 i0 x2) (retI (fun x4 σ3 => (((¬ x4 = (-1) → AMet G l M_X9_isWord d 0 0 [xR (some (10, p1)), xR (some (30, 18))] (sI σ3 9 2 i0 x4) (retI (fun x6 σ5 => (narrow .boolean (.int x6) = .int x6 ∧ fits .boolean (.int x6) = true ∧ (((x6 = 0 → AMet G l M_X9_passWord d 0 0 [xR (some (10, p1)), xR (some (30, 19))] (sI σ5 9 3 i0 x6) (retI (fun x8 σ7 => (narrow .boolean (.int x8) = .int x8 ∧ post (some (xI x8)) σ7))))) ∧ ((¬ x6 = 0 → AMet G l M_X9_passWord d 0 0 [xR (some (10, p1)), xR (some (30, 18))] (sI σ5 9 3 i0 x6) (retI (fun x10 σ9 => (narrow .boolean (.int x10) = .int x10 ∧ post (some (xI x10)) σ9))))))))))) ∧ ((x4 = (-1) → post (some (xI 0)) (sI σ3 9 2 i0 x4)))))))) ∧ ((x2 = (-1) → post (some (xI 0)) (sI σ1 9 1 i0 x2)))))))) ∧ (((gI σ 9 0 i0) = 0 → AMet G l M_X9_passNumber d 0 0 [xR (some (10, p1)), xI 0, xI 99999] σ (retI (fun x12 σ11 => (((x12 = (-1) → post (some (xI 0)) (sI σ11 9 2 i0 x12))) ∧ ((¬ x12 = (-1) → post (some (xI 1)) (sI σ11 9 2 i0 x12)))))))))) : AW G l M_X8_readNumbers (d + 1) post σ kk nn 0 [some (xR (some (9, i0))), some (xR (some (10, p1)))] [] := by
  refine aw_aload_n (i := 0) d_X8_readNumbers_0 rfl rfl ?_
  refine aw_getI fl_RX8_9 rfl d_X8_readNumbers_1 ?_
  refine aw_if_ne (tgt := 32) d_X8_readNumbers_4 (by decide) (fun c => ?_) (fun c => ?_)
  · have h := h.1 c
    refine aw_aload_n (i := 0) d_X8_readNumbers_32 rfl rfl ?_
    refine aw_aload_n (i := 1) d_X8_readNumbers_33 rfl rfl ?_
    refine aw_iconst (x := 0) d_X8_readNumbers_34 (by decide) ?_
    refine aw_ldcI (x := 99999) d_X8_readNumbers_35 ct_RX8_29 ?_
    refine aw_callV0 (as := [xI 0, xI 99999]) mw_X9_passNumber (by decide +kernel) ml_RX8_30 rfl d_X8_readNumbers_37 rfl (Nat.le_of_ble_eq_true rfl) (AMet.mono h (aw_toI (fun x2 σ1 h => ?_)))
    refine aw_putI fl_RX8_37 (by decide) (fin_no (r := (RX8, TX8, 4)) rfl rfl) d_X8_readNumbers_40 rfl ⟨rfl, rfl⟩ ?_
    refine aw_aload_n (i := 0) d_X8_readNumbers_43 rfl rfl ?_
    refine aw_getIv fl_RX8_37 rfl (x := x2) (gI_self (σ := σ1) (c := 9) (f := 1) (i := i0) (v := x2)) d_X8_readNumbers_44 ?_
    refine aw_iconst (x := -1) d_X8_readNumbers_47 (by decide) ?_
    refine aw_icmp_ne (tgt := 53) d_X8_readNumbers_48 (by decide) (fun c => ?_) (fun c => ?_)
    · have h := h.1 c
      refine aw_aload_n (i := 0) d_X8_readNumbers_53 rfl rfl ?_
      refine aw_aload_n (i := 1) d_X8_readNumbers_54 rfl rfl ?_
      refine aw_ldcS (tx := "each") (i := 17) (by decide +kernel) (by decide) d_X8_readNumbers_55 ?_
      refine aw_iconst (x := 0) d_X8_readNumbers_57 (by decide) ?_
      refine aw_ldcI (x := 99999) d_X8_readNumbers_58 ct_RX8_29 ?_
      refine aw_callV0 (as := [xR (some (30, 17)), xI 0, xI 99999]) mw_X9_passNumberAfter (by decide +kernel) ml_RX8_42 rfl d_X8_readNumbers_60 rfl (Nat.le_of_ble_eq_true rfl) (AMet.mono h (aw_toI (fun x4 σ3 h => ?_)))
      refine aw_putI fl_RX8_34 (by decide) (fin_no (r := (RX8, TX8, 4)) rfl rfl) d_X8_readNumbers_63 rfl ⟨rfl, rfl⟩ ?_
      refine aw_aload_n (i := 0) d_X8_readNumbers_66 rfl rfl ?_
      refine aw_getIv fl_RX8_34 rfl (x := x4) (gI_self (σ := σ3) (c := 9) (f := 2) (i := i0) (v := x4)) d_X8_readNumbers_67 ?_
      refine aw_iconst (x := -1) d_X8_readNumbers_70 (by decide) ?_
      refine aw_icmp_ne (tgt := 76) d_X8_readNumbers_71 (by decide) (fun c => ?_) (fun c => ?_)
      · have h := h.1 c
        refine aw_aload_n (i := 0) d_X8_readNumbers_76 rfl rfl ?_
        refine aw_aload_n (i := 1) d_X8_readNumbers_77 rfl rfl ?_
        refine aw_ldcS (tx := "up") (i := 18) (by decide +kernel) (by decide) d_X8_readNumbers_78 ?_
        refine aw_callV0 (as := [xR (some (30, 18))]) mw_X9_isWord (by decide +kernel) ml_RX8_17 rfl d_X8_readNumbers_80 rfl (Nat.le_of_ble_eq_true rfl) (AMet.mono h (aw_toI (fun x6 σ5 h => ?_)))
        obtain ⟨hz1, hz2, h⟩ := h
        refine aw_putI fl_RX8_48 (by decide) (fin_no (r := (RX8, TX8, 4)) rfl rfl) d_X8_readNumbers_83 rfl ⟨hz1, hz2⟩ ?_
        refine aw_aload_n (i := 1) d_X8_readNumbers_86 rfl rfl ?_
        refine aw_aload_n (i := 0) d_X8_readNumbers_87 rfl rfl ?_
        refine aw_getIv fl_RX8_48 rfl (x := x6) (gI_self (σ := σ5) (c := 9) (f := 3) (i := i0) (v := x6)) d_X8_readNumbers_88 ?_
        refine aw_if_eq (tgt := 99) d_X8_readNumbers_91 (by decide) (fun c => ?_) (fun c => ?_)
        · have h := h.1 c
          refine aw_ldcS (tx := "down") (i := 19) (by decide +kernel) (by decide) d_X8_readNumbers_99 ?_
          refine aw_callV0 (as := [xR (some (30, 19))]) mw_X9_passWord (by decide +kernel) ml_RX8_54 rfl d_X8_readNumbers_101 rfl (Nat.le_of_ble_eq_true rfl) (AMet.mono h (aw_toI (fun x8 σ7 h => ?_)))
          exact aw_ret d_X8_readNumbers_104 rfl h.1 h.2
        · have h := h.2 c
          refine aw_ldcS (tx := "up") (i := 18) (by decide +kernel) (by decide) d_X8_readNumbers_94 ?_
          refine aw_goto (tgt := 101) d_X8_readNumbers_96 (by decide) ?_
          refine aw_callV0 (as := [xR (some (30, 18))]) mw_X9_passWord (by decide +kernel) ml_RX8_54 rfl d_X8_readNumbers_101 rfl (Nat.le_of_ble_eq_true rfl) (AMet.mono h (aw_toI (fun x10 σ9 h => ?_)))
          exact aw_ret d_X8_readNumbers_104 rfl h.1 h.2
      · have h := h.2 c
        refine aw_iconst (x := 0) d_X8_readNumbers_74 (by decide) ?_
        exact aw_ret d_X8_readNumbers_75 rfl (by decide) h
    · have h := h.2 c
      refine aw_iconst (x := 0) d_X8_readNumbers_51 (by decide) ?_
      exact aw_ret d_X8_readNumbers_52 rfl (by decide) h
  · have h := h.2 c
    refine aw_aload_n (i := 0) d_X8_readNumbers_7 rfl rfl ?_
    refine aw_aload_n (i := 1) d_X8_readNumbers_8 rfl rfl ?_
    refine aw_iconst (x := 0) d_X8_readNumbers_9 (by decide) ?_
    refine aw_ldcI (x := 99999) d_X8_readNumbers_10 ct_RX8_29 ?_
    refine aw_callV0 (as := [xI 0, xI 99999]) mw_X9_passNumber (by decide +kernel) ml_RX8_30 rfl d_X8_readNumbers_12 rfl (Nat.le_of_ble_eq_true rfl) (AMet.mono h (aw_toI (fun x12 σ11 h => ?_)))
    refine aw_putI fl_RX8_34 (by decide) (fin_no (r := (RX8, TX8, 4)) rfl rfl) d_X8_readNumbers_15 rfl ⟨rfl, rfl⟩ ?_
    refine aw_aload_n (i := 0) d_X8_readNumbers_18 rfl rfl ?_
    refine aw_getIv fl_RX8_34 rfl (x := x12) (gI_self (σ := σ11) (c := 9) (f := 2) (i := i0) (v := x12)) d_X8_readNumbers_19 ?_
    refine aw_iconst (x := -1) d_X8_readNumbers_22 (by decide) ?_
    refine aw_icmp_eq (tgt := 30) d_X8_readNumbers_23 (by decide) (fun c => ?_) (fun c => ?_)
    · have h := h.1 c
      refine aw_iconst (x := 0) d_X8_readNumbers_30 (by decide) ?_
      exact aw_ret d_X8_readNumbers_31 rfl (by decide) h
    · have h := h.2 c
      refine aw_iconst (x := 1) d_X8_readNumbers_26 (by decide) ?_
      refine aw_goto (tgt := 31) d_X8_readNumbers_27 (by decide) ?_
      exact aw_ret d_X8_readNumbers_31 rfl (by decide) h
set_option maxRecDepth 20000 in
theorem vc_X8_worth {G : GG} {l : Launch} {d : Nat} {post : Option AVal → AS → Prop} {σ : AS} {kk nn : Nat} {i0 : Nat} {a1 : Int32} {a2 : Int32} (h : ((((gI σ 9 0 i0) = 0 → post (some (xI (gI σ 9 2 i0))) σ)) ∧ (((gI σ 9 0 i0) = 1 → AMet G l M_X8_quarters d 0 0 [xR (some (9, i0)), xI ((a2 - a1) - (gI σ 9 1 i0))] σ (retI (fun x2 σ1 => post (some (xI (x2 * (gI σ1 9 2 i0)))) σ1)))) ∧ (((gI σ 9 0 i0) = 2 → AMet G l M_X8_quarters d 0 0 [xR (some (9, i0)), xI ((gI σ 9 1 i0) - a1)] σ (retI (fun x4 σ3 => post (some (xI (x4 * (gI σ3 9 2 i0)))) σ3)))) ∧ (((gI σ 9 0 i0) = 3 → AMet G l M_X8_quarters d 0 0 [xR (some (9, i0)), xI (a2 - (gI σ 9 1 i0))] σ (retI (fun x6 σ5 => post (some (xI (x6 * (gI σ5 9 2 i0)))) σ5)))) ∧ ((((gI σ 9 0 i0).toInt < 0 ∨ 3 < (gI σ 9 0 i0).toInt) → post (some (xI 0)) σ)))) : AW G l M_X8_worth (d + 1) post σ kk nn 0 [some (xR (some (9, i0))), some (xI a1), some (xI a2)] [] := by
  refine aw_aload_n (i := 0) d_X8_worth_0 rfl rfl ?_
  refine aw_getI fl_RX8_9 rfl d_X8_worth_1 ?_
  by_cases c0 : (gI σ 9 0 i0) = 0
  · have c := c0
    have h := h.1 c
    refine aw_sw (k := 0) (off := 32) (tgt := 36) d_X8_worth_4 c (by decide) (by decide) (by decide) (by decide) ?_
    refine aw_aload_n (i := 0) d_X8_worth_36 rfl rfl ?_
    refine aw_getI fl_RX8_34 rfl d_X8_worth_37 ?_
    exact aw_ret d_X8_worth_40 rfl rfl h
  by_cases c1 : (gI σ 9 0 i0) = 1
  · have c := c1
    have h := h.2.1 c
    refine aw_sw (k := 1) (off := 37) (tgt := 41) d_X8_worth_4 c (by decide) (by decide) (by decide) (by decide) ?_
    refine aw_aload_n (i := 0) d_X8_worth_41 rfl rfl ?_
    refine aw_iload_n (i := 2) d_X8_worth_42 rfl rfl ?_
    refine aw_iload_n (i := 1) d_X8_worth_43 rfl rfl ?_
    refine aw_isub d_X8_worth_44 ?_
    refine aw_aload_n (i := 0) d_X8_worth_45 rfl rfl ?_
    refine aw_getI fl_RX8_37 rfl d_X8_worth_46 ?_
    refine aw_isub d_X8_worth_49 ?_
    refine aw_callV0 (as := [xI ((a2 - a1) - (gI σ 9 1 i0))]) mw_X8_quarters (by decide +kernel) ml_RX8_57 rfl d_X8_worth_50 rfl (Nat.le_of_ble_eq_true rfl) (AMet.mono h (aw_toI (fun x2 σ1 h => ?_)))
    refine aw_aload_n (i := 0) d_X8_worth_53 rfl rfl ?_
    refine aw_getI fl_RX8_34 rfl d_X8_worth_54 ?_
    refine aw_imul d_X8_worth_57 ?_
    exact aw_ret d_X8_worth_58 rfl rfl h
  by_cases c2 : (gI σ 9 0 i0) = 2
  · have c := c2
    have h := h.2.2.1 c
    refine aw_sw (k := 2) (off := 55) (tgt := 59) d_X8_worth_4 c (by decide) (by decide) (by decide) (by decide) ?_
    refine aw_aload_n (i := 0) d_X8_worth_59 rfl rfl ?_
    refine aw_aload_n (i := 0) d_X8_worth_60 rfl rfl ?_
    refine aw_getI fl_RX8_37 rfl d_X8_worth_61 ?_
    refine aw_iload_n (i := 1) d_X8_worth_64 rfl rfl ?_
    refine aw_isub d_X8_worth_65 ?_
    refine aw_callV0 (as := [xI ((gI σ 9 1 i0) - a1)]) mw_X8_quarters (by decide +kernel) ml_RX8_57 rfl d_X8_worth_66 rfl (Nat.le_of_ble_eq_true rfl) (AMet.mono h (aw_toI (fun x4 σ3 h => ?_)))
    refine aw_aload_n (i := 0) d_X8_worth_69 rfl rfl ?_
    refine aw_getI fl_RX8_34 rfl d_X8_worth_70 ?_
    refine aw_imul d_X8_worth_73 ?_
    exact aw_ret d_X8_worth_74 rfl rfl h
  by_cases c3 : (gI σ 9 0 i0) = 3
  · have c := c3
    have h := h.2.2.2.1 c
    refine aw_sw (k := 3) (off := 71) (tgt := 75) d_X8_worth_4 c (by decide) (by decide) (by decide) (by decide) ?_
    refine aw_aload_n (i := 0) d_X8_worth_75 rfl rfl ?_
    refine aw_iload_n (i := 2) d_X8_worth_76 rfl rfl ?_
    refine aw_aload_n (i := 0) d_X8_worth_77 rfl rfl ?_
    refine aw_getI fl_RX8_37 rfl d_X8_worth_78 ?_
    refine aw_isub d_X8_worth_81 ?_
    refine aw_callV0 (as := [xI (a2 - (gI σ 9 1 i0))]) mw_X8_quarters (by decide +kernel) ml_RX8_57 rfl d_X8_worth_82 rfl (Nat.le_of_ble_eq_true rfl) (AMet.mono h (aw_toI (fun x6 σ5 h => ?_)))
    refine aw_aload_n (i := 0) d_X8_worth_85 rfl rfl ?_
    refine aw_getI fl_RX8_34 rfl d_X8_worth_86 ?_
    refine aw_imul d_X8_worth_89 ?_
    exact aw_ret d_X8_worth_90 rfl rfl h
  have c : (gI σ 9 0 i0).toInt < 0 ∨ 3 < (gI σ 9 0 i0).toInt := by
    have q0 : ¬ (gI σ 9 0 i0).toInt = 0 := fun e => c0 (i32_eq (e.trans (by decide)))
    have q1 : ¬ (gI σ 9 0 i0).toInt = 1 := fun e => c1 (i32_eq (e.trans (by decide)))
    have q2 : ¬ (gI σ 9 0 i0).toInt = 2 := fun e => c2 (i32_eq (e.trans (by decide)))
    have q3 : ¬ (gI σ 9 0 i0).toInt = 3 := fun e => c3 (i32_eq (e.trans (by decide)))
    omega
  have h := h.2.2.2.2 c
  refine aw_switchOut (tgt := 91) d_X8_worth_4 c (by decide) ?_
  refine aw_iconst (x := 0) d_X8_worth_91 (by decide) ?_
  exact aw_ret d_X8_worth_92 rfl rfl h
set_option maxRecDepth 20000 in
theorem vc_X8_quarters {G : GG} {l : Launch} {d : Nat} {post : Option AVal → AS → Prop} {σ : AS} {kk nn : Nat} {i0 : Nat} {a1 : Int32} (h : (((0 < a1 → ((((gI σ 9 3 i0) = 0 → post (some (xI (a1 / 15))) σ)) ∧ ((¬ (gI σ 9 3 i0) = 0 → post (some (xI (((a1 + 15) - 1) / 15))) σ))))) ∧ ((¬ 0 < a1 → post (some (xI 0)) σ)))) : AW G l M_X8_quarters d post σ kk nn 0 [some (xR (some (9, i0))), some (xI a1)] [] := by
  refine aw_iload_n (i := 1) d_X8_quarters_0 rfl rfl ?_
  refine aw_if_gt (tgt := 6) d_X8_quarters_1 (by decide) (fun c => ?_) (fun c => ?_)
  · have h := h.1 c
    refine aw_aload_n (i := 0) d_X8_quarters_6 rfl rfl ?_
    refine aw_getI fl_RX8_48 rfl d_X8_quarters_7 ?_
    refine aw_if_eq (tgt := 22) d_X8_quarters_10 (by decide) (fun c => ?_) (fun c => ?_)
    · have h := h.1 c
      refine aw_iload_n (i := 1) d_X8_quarters_22 rfl rfl ?_
      refine aw_bipush (x := 15) d_X8_quarters_23 (by decide) ?_
      refine aw_idiv d_X8_quarters_25 (by decide) ?_
      exact aw_ret d_X8_quarters_26 rfl rfl h
    · have h := h.2 c
      refine aw_iload_n (i := 1) d_X8_quarters_13 rfl rfl ?_
      refine aw_bipush (x := 15) d_X8_quarters_14 (by decide) ?_
      refine aw_iadd d_X8_quarters_16 ?_
      refine aw_iconst (x := 1) d_X8_quarters_17 (by decide) ?_
      refine aw_isub d_X8_quarters_18 ?_
      refine aw_goto (tgt := 23) d_X8_quarters_19 (by decide) ?_
      refine aw_bipush (x := 15) d_X8_quarters_23 (by decide) ?_
      refine aw_idiv d_X8_quarters_25 (by decide) ?_
      exact aw_ret d_X8_quarters_26 rfl rfl h
  · have h := h.2 c
    refine aw_iconst (x := 0) d_X8_quarters_4 (by decide) ?_
    exact aw_ret d_X8_quarters_5 rfl rfl h
set_option maxRecDepth 20000 in
theorem vc_X9_init {G : GG} {l : Launch} {d : Nat} {post : Option AVal → AS → Prop} {σ : AS} {kk nn : Nat}  (h : (∃ kk1 nn2 : Nat, (kk = kk1 + 1 ∧ nn = nn2 + 2 ∧ ((∃ mc6 ms7 kk4 nn5 : Nat, (kk1 = kk4 + mc6 ∧ nn2 = nn5 + ms7 ∧ (AMet G l M_X7_init d mc6 ms7 [xR (some (8, (cnt σ 8))), xI 1000] (nO σ 8) (retV (fun σ3 => post none (sI (sR σ3 10 2 0 (some (8, (cnt σ 8)))) 10 1 0 (-1))))))))))) : AW G l M_X9_init (d + 1) post σ kk nn 0 [some (xR (some (10, 0)))] [] := by
  refine aw_aload_n (i := 0) d_X9_init_0 rfl rfl ?_
  refine aw_objInit oi_RX9_3 d_X9_init_1 (Nat.le_of_ble_eq_true rfl) ?_
  refine aw_aload_n (i := 0) d_X9_init_4 rfl rfl ?_
  obtain ⟨kk1, nn2, ek, en, h⟩ := h
  rw [ek, en]
  refine aw_new (c := 8) (n := 2) (r := (RX7, TX7, 2)) rfl rfl nw_RX9_9 d_X9_init_5 ?_
  refine aw_dupR d_X9_init_8 ?_
  refine aw_sipush (x := 1000) d_X9_init_9 (by decide) ?_
  obtain ⟨mc6, ms7, kk4, nn5, ek, en, h⟩ := h
  rw [ek, en]
  refine aw_callI (as := [xI 1000]) mw_X7_init rfl rfl ml_RX9_11 rfl d_X9_init_12 rfl (Nat.le_of_ble_eq_true rfl) (AMet.mono h (aw_toV (fun σ3 h => ?_)))
  refine aw_putR fl_RX9_14 (by decide) (fin_init (r := (RX9, TX9, 7)) rfl rfl rfl) d_X9_init_15 rfl (by decide) ?_
  refine aw_aload_n (i := 0) d_X9_init_18 rfl rfl ?_
  refine aw_iconst (x := -1) d_X9_init_19 (by decide) ?_
  refine aw_putI fl_RX9_20 (by decide) (fin_no (r := (RX9, TX9, 7)) rfl rfl) d_X9_init_20 rfl ⟨rfl, rfl⟩ ?_
  exact aw_vret d_X9_init_23 rfl h
set_option maxRecDepth 20000 in
theorem vc_X9_begin {G : GG} {l : Launch} {d : Nat} {post : Option AVal → AS → Prop} {σ : AS} {kk nn : Nat}  (h : AMet G l M_X9_advance d 0 0 [xR (some (10, 0))] (sI (sI (sI σ 10 0 0 0) 10 1 0 (-1)) 10 5 0 0) (retV (fun σ1 => post none σ1))) : AW G l M_X9_begin (d + 1) post σ kk nn 0 [some (xR (some (10, 0)))] [] := by
  refine aw_aload_n (i := 0) d_X9_begin_0 rfl rfl ?_
  refine aw_iconst (x := 0) d_X9_begin_1 (by decide) ?_
  refine aw_putI fl_RX9_24 (by decide) (fin_no (r := (RX9, TX9, 7)) rfl rfl) d_X9_begin_2 rfl ⟨rfl, rfl⟩ ?_
  refine aw_aload_n (i := 0) d_X9_begin_5 rfl rfl ?_
  refine aw_iconst (x := -1) d_X9_begin_6 (by decide) ?_
  refine aw_putI fl_RX9_20 (by decide) (fin_no (r := (RX9, TX9, 7)) rfl rfl) d_X9_begin_7 rfl ⟨rfl, rfl⟩ ?_
  refine aw_aload_n (i := 0) d_X9_begin_10 rfl rfl ?_
  refine aw_iconst (x := 0) d_X9_begin_11 (by decide) ?_
  refine aw_putI fl_RX9_27 (by decide) (fin_no (r := (RX9, TX9, 7)) rfl rfl) d_X9_begin_12 rfl ⟨rfl, rfl⟩ ?_
  refine aw_aload_n (i := 0) d_X9_begin_15 rfl rfl ?_
  refine aw_callV0 (as := []) mw_X9_advance (by decide +kernel) ml_RX9_30 rfl d_X9_begin_16 rfl (Nat.le_of_ble_eq_true rfl) (AMet.mono h (aw_toV (fun σ1 h => ?_)))
  exact aw_vret d_X9_begin_19 rfl h
set_option maxRecDepth 20000 in
theorem vc_X9_advance {G : GG} {l : Launch} {d : Nat} {post : Option AVal → AS → Prop} {σ : AS} {kk nn : Nat}  (h : AW G l M_X9_advance (d + 1) post (sI σ 10 4 0 (gI σ 10 5 0)) kk nn 8 [some (xR (some (10, 0)))] []) : AW G l M_X9_advance (d + 1) post σ kk nn 0 [some (xR (some (10, 0)))] [] := by
  refine aw_aload_n (i := 0) d_X9_advance_0 rfl rfl ?_
  refine aw_aload_n (i := 0) d_X9_advance_1 rfl rfl ?_
  refine aw_getI fl_RX9_27 rfl d_X9_advance_2 ?_
  refine aw_putI fl_RX9_33 (by decide) (fin_no (r := (RX9, TX9, 7)) rfl rfl) d_X9_advance_5 rfl ⟨rfl, rfl⟩ ?_
  exact h
set_option maxRecDepth 20000 in
theorem vc_X9_advance_8 {G : GG} {l : Launch} {d : Nat} {post : Option AVal → AS → Prop} {σ : AS} {kk nn : Nat}  (hS : St σ) (h : ((((gI σ 8 1 0) ≤ (gI σ 10 4 0) → AMet G l M_X7_at d 0 0 [xR (some (8, 0)), xI (gI σ 10 4 0)] σ (retI (fun x2 σ1 => AMet G l M_X9_kindOf d 0 0 [xI x2] σ1 (retI (fun x4 σ3 => (((¬ x4 = 4 → AW G l M_X9_advance (d + 1) post (sI (sI (sI σ3 10 3 0 x4) 10 6 0 0) 10 5 0 (gI σ3 10 4 0)) kk nn 101 [some (xR (some (10, 0)))] [])) ∧ ((x4 = 4 → AW G l M_X9_advance (d + 1) post (sI (sI (sI σ3 10 3 0 x4) 10 6 0 0) 10 5 0 ((gI σ3 10 4 0) + 1)) kk nn 101 [some (xR (some (10, 0)))] []))))))))) ∧ ((¬ (gI σ 8 1 0) ≤ (gI σ 10 4 0) → AMet G l M_X7_at d 0 0 [xR (some (8, 0)), xI (gI σ 10 4 0)] σ (retI (fun x6 σ5 => AMet G l M_X9_kindOf d 0 0 [xI x6] σ5 (retI (fun x8 σ7 => (St σ7 ∧ (((¬ x8 = 1 → AMet G l M_X7_at d 0 0 [xR (some (8, 0)), xI (gI σ7 10 4 0)] σ7 (retI (fun x10 σ9 => AMet G l M_X9_kindOf d 0 0 [xI x10] σ9 (retI (fun x12 σ11 => (((¬ x12 = 4 → AW G l M_X9_advance (d + 1) post (sI (sI (sI σ11 10 3 0 x12) 10 6 0 0) 10 5 0 (gI σ11 10 4 0)) kk nn 101 [some (xR (some (10, 0)))] [])) ∧ ((x12 = 4 → AW G l M_X9_advance (d + 1) post (sI (sI (sI σ11 10 3 0 x12) 10 6 0 0) 10 5 0 ((gI σ11 10 4 0) + 1)) kk nn 101 [some (xR (some (10, 0)))] []))))))))) ∧ ((x8 = 1 → AW G l M_X9_advance (d + 1) post (sI σ7 10 4 0 ((gI σ7 10 4 0) + 1)) kk nn 8 [some (xR (some (10, 0)))] [])))))))))))) : AW G l M_X9_advance (d + 1) post σ kk nn 8 [some (xR (some (10, 0)))] [] := by
  refine aw_aload_n (i := 0) d_X9_advance_8 rfl rfl ?_
  refine aw_getI fl_RX9_33 rfl d_X9_advance_9 ?_
  refine aw_aload_n (i := 0) d_X9_advance_12 rfl rfl ?_
  refine aw_getRv fl_RX9_14 rfl (r := some (8, 0)) (St.get hS 10 2 0 8 0 (by decide)) d_X9_advance_13 ?_
  refine aw_getI fl_RX9_36 rfl d_X9_advance_16 ?_
  refine aw_icmp_ge (tgt := 53) d_X9_advance_19 (by decide) (fun c => ?_) (fun c => ?_)
  · have h := h.1 c
    refine aw_aload_n (i := 0) d_X9_advance_53 rfl rfl ?_
    refine aw_aload_n (i := 0) d_X9_advance_54 rfl rfl ?_
    refine aw_getRv fl_RX9_14 rfl (r := some (8, 0)) (St.get hS 10 2 0 8 0 (by decide)) d_X9_advance_55 ?_
    refine aw_aload_n (i := 0) d_X9_advance_58 rfl rfl ?_
    refine aw_getI fl_RX9_33 rfl d_X9_advance_59 ?_
    refine aw_callV0 (as := [xI (gI σ 10 4 0)]) mw_X7_at (by decide +kernel) ml_RX9_39 rfl d_X9_advance_62 rfl (Nat.le_of_ble_eq_true rfl) (AMet.mono h (aw_toI (fun x2 σ1 h => ?_)))
    refine aw_callS0 (as := [xI x2]) mw_X9_kindOf ml_RX9_43 rfl d_X9_advance_65 rfl (Nat.le_of_ble_eq_true rfl) (AMet.mono h (aw_toI (fun x4 σ3 h => ?_)))
    refine aw_putI fl_RX9_46 (by decide) (fin_no (r := (RX9, TX9, 7)) rfl rfl) d_X9_advance_68 rfl ⟨rfl, rfl⟩ ?_
    refine aw_aload_n (i := 0) d_X9_advance_71 rfl rfl ?_
    refine aw_iconst (x := 0) d_X9_advance_72 (by decide) ?_
    refine aw_putI fl_RX9_49 (by decide) (fin_no (r := (RX9, TX9, 7)) rfl rfl) d_X9_advance_73 rfl ⟨rfl, rfl⟩ ?_
    refine aw_aload_n (i := 0) d_X9_advance_76 rfl rfl ?_
    refine aw_aload_n (i := 0) d_X9_advance_77 rfl rfl ?_
    refine aw_getIv fl_RX9_46 rfl (x := x4) (gI_self (σ := σ3) (c := 10) (f := 3) (i := 0) (v := x4)) d_X9_advance_78 ?_
    refine aw_iconst (x := 4) d_X9_advance_81 (by decide) ?_
    refine aw_icmp_ne (tgt := 94) d_X9_advance_82 (by decide) (fun c => ?_) (fun c => ?_)
    · have h := h.1 c
      refine aw_aload_n (i := 0) d_X9_advance_94 rfl rfl ?_
      refine aw_getIv fl_RX9_33 rfl (x := gI σ3 10 4 0) rfl d_X9_advance_95 ?_
      refine aw_putI fl_RX9_27 (by decide) (fin_no (r := (RX9, TX9, 7)) rfl rfl) d_X9_advance_98 rfl ⟨rfl, rfl⟩ ?_
      exact h
    · have h := h.2 c
      refine aw_aload_n (i := 0) d_X9_advance_85 rfl rfl ?_
      refine aw_getIv fl_RX9_33 rfl (x := gI σ3 10 4 0) rfl d_X9_advance_86 ?_
      refine aw_iconst (x := 1) d_X9_advance_89 (by decide) ?_
      refine aw_iadd d_X9_advance_90 ?_
      refine aw_goto (tgt := 98) d_X9_advance_91 (by decide) ?_
      refine aw_putI fl_RX9_27 (by decide) (fin_no (r := (RX9, TX9, 7)) rfl rfl) d_X9_advance_98 rfl ⟨rfl, rfl⟩ ?_
      exact h
  · have h := h.2 c
    refine aw_aload_n (i := 0) d_X9_advance_22 rfl rfl ?_
    refine aw_getRv fl_RX9_14 rfl (r := some (8, 0)) (St.get hS 10 2 0 8 0 (by decide)) d_X9_advance_23 ?_
    refine aw_aload_n (i := 0) d_X9_advance_26 rfl rfl ?_
    refine aw_getI fl_RX9_33 rfl d_X9_advance_27 ?_
    refine aw_callV0 (as := [xI (gI σ 10 4 0)]) mw_X7_at (by decide +kernel) ml_RX9_39 rfl d_X9_advance_30 rfl (Nat.le_of_ble_eq_true rfl) (AMet.mono h (aw_toI (fun x6 σ5 h => ?_)))
    refine aw_callS0 (as := [xI x6]) mw_X9_kindOf ml_RX9_43 rfl d_X9_advance_33 rfl (Nat.le_of_ble_eq_true rfl) (AMet.mono h (aw_toI (fun x8 σ7 h => ?_)))
    obtain ⟨hS7, h⟩ := h
    refine aw_iconst (x := 1) d_X9_advance_36 (by decide) ?_
    refine aw_icmp_ne (tgt := 53) d_X9_advance_37 (by decide) (fun c => ?_) (fun c => ?_)
    · have h := h.1 c
      refine aw_aload_n (i := 0) d_X9_advance_53 rfl rfl ?_
      refine aw_aload_n (i := 0) d_X9_advance_54 rfl rfl ?_
      refine aw_getRv fl_RX9_14 rfl (r := some (8, 0)) (St.get hS7 10 2 0 8 0 (by decide)) d_X9_advance_55 ?_
      refine aw_aload_n (i := 0) d_X9_advance_58 rfl rfl ?_
      refine aw_getI fl_RX9_33 rfl d_X9_advance_59 ?_
      refine aw_callV0 (as := [xI (gI σ7 10 4 0)]) mw_X7_at (by decide +kernel) ml_RX9_39 rfl d_X9_advance_62 rfl (Nat.le_of_ble_eq_true rfl) (AMet.mono h (aw_toI (fun x10 σ9 h => ?_)))
      refine aw_callS0 (as := [xI x10]) mw_X9_kindOf ml_RX9_43 rfl d_X9_advance_65 rfl (Nat.le_of_ble_eq_true rfl) (AMet.mono h (aw_toI (fun x12 σ11 h => ?_)))
      refine aw_putI fl_RX9_46 (by decide) (fin_no (r := (RX9, TX9, 7)) rfl rfl) d_X9_advance_68 rfl ⟨rfl, rfl⟩ ?_
      refine aw_aload_n (i := 0) d_X9_advance_71 rfl rfl ?_
      refine aw_iconst (x := 0) d_X9_advance_72 (by decide) ?_
      refine aw_putI fl_RX9_49 (by decide) (fin_no (r := (RX9, TX9, 7)) rfl rfl) d_X9_advance_73 rfl ⟨rfl, rfl⟩ ?_
      refine aw_aload_n (i := 0) d_X9_advance_76 rfl rfl ?_
      refine aw_aload_n (i := 0) d_X9_advance_77 rfl rfl ?_
      refine aw_getIv fl_RX9_46 rfl (x := x12) (gI_self (σ := σ11) (c := 10) (f := 3) (i := 0) (v := x12)) d_X9_advance_78 ?_
      refine aw_iconst (x := 4) d_X9_advance_81 (by decide) ?_
      refine aw_icmp_ne (tgt := 94) d_X9_advance_82 (by decide) (fun c => ?_) (fun c => ?_)
      · have h := h.1 c
        refine aw_aload_n (i := 0) d_X9_advance_94 rfl rfl ?_
        refine aw_getIv fl_RX9_33 rfl (x := gI σ11 10 4 0) rfl d_X9_advance_95 ?_
        refine aw_putI fl_RX9_27 (by decide) (fin_no (r := (RX9, TX9, 7)) rfl rfl) d_X9_advance_98 rfl ⟨rfl, rfl⟩ ?_
        exact h
      · have h := h.2 c
        refine aw_aload_n (i := 0) d_X9_advance_85 rfl rfl ?_
        refine aw_getIv fl_RX9_33 rfl (x := gI σ11 10 4 0) rfl d_X9_advance_86 ?_
        refine aw_iconst (x := 1) d_X9_advance_89 (by decide) ?_
        refine aw_iadd d_X9_advance_90 ?_
        refine aw_goto (tgt := 98) d_X9_advance_91 (by decide) ?_
        refine aw_putI fl_RX9_27 (by decide) (fin_no (r := (RX9, TX9, 7)) rfl rfl) d_X9_advance_98 rfl ⟨rfl, rfl⟩ ?_
        exact h
    · have h := h.2 c
      refine aw_aload_n (i := 0) d_X9_advance_40 rfl rfl ?_
      refine aw_dupR d_X9_advance_41 ?_
      refine aw_getI fl_RX9_33 rfl d_X9_advance_42 ?_
      refine aw_iconst (x := 1) d_X9_advance_45 (by decide) ?_
      refine aw_iadd d_X9_advance_46 ?_
      refine aw_putI fl_RX9_33 (by decide) (fin_no (r := (RX9, TX9, 7)) rfl rfl) d_X9_advance_47 rfl ⟨rfl, rfl⟩ ?_
      refine aw_goto (tgt := 8) d_X9_advance_50 (by decide) ?_
      exact h
set_option maxRecDepth 20000 in
theorem vc_X9_advance_101 {G : GG} {l : Launch} {d : Nat} {post : Option AVal → AS → Prop} {σ : AS} {kk nn : Nat}  (hS : St σ) (h : ((((gI σ 8 1 0) ≤ (gI σ 10 5 0) → post none σ)) ∧ ((¬ (gI σ 8 1 0) ≤ (gI σ 10 5 0) → ((((gI σ 10 3 0) = 4 → post none σ)) ∧ ((¬ (gI σ 10 3 0) = 4 → AMet G l M_X7_at d 0 0 [xR (some (8, 0)), xI (gI σ 10 5 0)] σ (retI (fun x14 σ13 => AMet G l M_X9_kindOf d 0 0 [xI x14] σ13 (retI (fun x16 σ15 => (St σ15 ∧ (((¬ x16 = (gI σ15 10 3 0) → post none σ15)) ∧ ((x16 = (gI σ15 10 3 0) → AMet G l M_X7_at d 0 0 [xR (some (8, 0)), xI (gI σ15 10 5 0)] σ15 (retI (fun x18 σ17 => AW G l M_X9_advance (d + 1) post (sI (sI σ17 10 6 0 ((((gI σ15 10 6 0) * 10) + x18) - 48)) 10 5 0 ((gI σ17 10 5 0) + 1)) kk nn 101 [some (xR (some (10, 0)))] []))))))))))))))))) : AW G l M_X9_advance (d + 1) post σ kk nn 101 [some (xR (some (10, 0)))] [] := by
  refine aw_aload_n (i := 0) d_X9_advance_101 rfl rfl ?_
  refine aw_getI fl_RX9_27 rfl d_X9_advance_102 ?_
  refine aw_aload_n (i := 0) d_X9_advance_105 rfl rfl ?_
  refine aw_getRv fl_RX9_14 rfl (r := some (8, 0)) (St.get hS 10 2 0 8 0 (by decide)) d_X9_advance_106 ?_
  refine aw_getI fl_RX9_36 rfl d_X9_advance_109 ?_
  refine aw_icmp_ge (tgt := 183) d_X9_advance_112 (by decide) (fun c => ?_) (fun c => ?_)
  · have h := h.1 c
    exact aw_vret d_X9_advance_183 rfl h
  · have h := h.2 c
    refine aw_aload_n (i := 0) d_X9_advance_115 rfl rfl ?_
    refine aw_getI fl_RX9_46 rfl d_X9_advance_116 ?_
    refine aw_iconst (x := 4) d_X9_advance_119 (by decide) ?_
    refine aw_icmp_eq (tgt := 183) d_X9_advance_120 (by decide) (fun c => ?_) (fun c => ?_)
    · have h := h.1 c
      exact aw_vret d_X9_advance_183 rfl h
    · have h := h.2 c
      refine aw_aload_n (i := 0) d_X9_advance_123 rfl rfl ?_
      refine aw_getRv fl_RX9_14 rfl (r := some (8, 0)) (St.get hS 10 2 0 8 0 (by decide)) d_X9_advance_124 ?_
      refine aw_aload_n (i := 0) d_X9_advance_127 rfl rfl ?_
      refine aw_getI fl_RX9_27 rfl d_X9_advance_128 ?_
      refine aw_callV0 (as := [xI (gI σ 10 5 0)]) mw_X7_at (by decide +kernel) ml_RX9_39 rfl d_X9_advance_131 rfl (Nat.le_of_ble_eq_true rfl) (AMet.mono h (aw_toI (fun x14 σ13 h => ?_)))
      refine aw_callS0 (as := [xI x14]) mw_X9_kindOf ml_RX9_43 rfl d_X9_advance_134 rfl (Nat.le_of_ble_eq_true rfl) (AMet.mono h (aw_toI (fun x16 σ15 h => ?_)))
      obtain ⟨hS15, h⟩ := h
      refine aw_aload_n (i := 0) d_X9_advance_137 rfl rfl ?_
      refine aw_getI fl_RX9_46 rfl d_X9_advance_138 ?_
      refine aw_icmp_ne (tgt := 183) d_X9_advance_141 (by decide) (fun c => ?_) (fun c => ?_)
      · have h := h.1 c
        exact aw_vret d_X9_advance_183 rfl h
      · have h := h.2 c
        refine aw_aload_n (i := 0) d_X9_advance_144 rfl rfl ?_
        refine aw_aload_n (i := 0) d_X9_advance_145 rfl rfl ?_
        refine aw_getI fl_RX9_49 rfl d_X9_advance_146 ?_
        refine aw_bipush (x := 10) d_X9_advance_149 (by decide) ?_
        refine aw_imul d_X9_advance_151 ?_
        refine aw_aload_n (i := 0) d_X9_advance_152 rfl rfl ?_
        refine aw_getRv fl_RX9_14 rfl (r := some (8, 0)) (St.get hS15 10 2 0 8 0 (by decide)) d_X9_advance_153 ?_
        refine aw_aload_n (i := 0) d_X9_advance_156 rfl rfl ?_
        refine aw_getI fl_RX9_27 rfl d_X9_advance_157 ?_
        refine aw_callV0 (as := [xI (gI σ15 10 5 0)]) mw_X7_at (by decide +kernel) ml_RX9_39 rfl d_X9_advance_160 rfl (Nat.le_of_ble_eq_true rfl) (AMet.mono h (aw_toI (fun x18 σ17 h => ?_)))
        refine aw_iadd d_X9_advance_163 ?_
        refine aw_bipush (x := 48) d_X9_advance_164 (by decide) ?_
        refine aw_isub d_X9_advance_166 ?_
        refine aw_putI fl_RX9_49 (by decide) (fin_no (r := (RX9, TX9, 7)) rfl rfl) d_X9_advance_167 rfl ⟨rfl, rfl⟩ ?_
        refine aw_aload_n (i := 0) d_X9_advance_170 rfl rfl ?_
        refine aw_dupR d_X9_advance_171 ?_
        refine aw_getIv fl_RX9_27 rfl (x := gI σ17 10 5 0) rfl d_X9_advance_172 ?_
        refine aw_iconst (x := 1) d_X9_advance_175 (by decide) ?_
        refine aw_iadd d_X9_advance_176 ?_
        refine aw_putI fl_RX9_27 (by decide) (fin_no (r := (RX9, TX9, 7)) rfl rfl) d_X9_advance_177 rfl ⟨rfl, rfl⟩ ?_
        refine aw_goto (tgt := 101) d_X9_advance_180 (by decide) ?_
        exact h
set_option maxRecDepth 20000 in
theorem vc_X9_kindOf {G : GG} {l : Launch} {d : Nat} {post : Option AVal → AS → Prop} {σ : AS} {kk nn : Nat} {a1 : Int32} (h : (((¬ a1 = (-1) → (((a1 = 32 → post (some (xI 1)) σ)) ∧ ((¬ a1 = 32 → (((¬ a1 = 10 → (((a1 < 97 → (((a1 < 48 → post (some (xI 4)) σ)) ∧ ((¬ a1 < 48 → (((57 < a1 → post (some (xI 4)) σ)) ∧ ((¬ 57 < a1 → post (some (xI 3)) σ)))))))) ∧ ((¬ a1 < 97 → (((122 < a1 → (((a1 < 48 → post (some (xI 4)) σ)) ∧ ((¬ a1 < 48 → (((57 < a1 → post (some (xI 4)) σ)) ∧ ((¬ 57 < a1 → post (some (xI 3)) σ)))))))) ∧ ((¬ 122 < a1 → post (some (xI 2)) σ)))))))) ∧ ((a1 = 10 → post (some (xI 1)) σ)))))))) ∧ ((a1 = (-1) → post (some (xI 0)) σ)))) : AW G l M_X9_kindOf d post σ kk nn 0 [some (xI a1)] [] := by
  refine aw_iload_n (i := 0) d_X9_kindOf_0 rfl rfl ?_
  refine aw_iconst (x := -1) d_X9_kindOf_1 (by decide) ?_
  refine aw_icmp_ne (tgt := 7) d_X9_kindOf_2 (by decide) (fun c => ?_) (fun c => ?_)
  · have h := h.1 c
    refine aw_iload_n (i := 0) d_X9_kindOf_7 rfl rfl ?_
    refine aw_bipush (x := 32) d_X9_kindOf_8 (by decide) ?_
    refine aw_icmp_eq (tgt := 19) d_X9_kindOf_10 (by decide) (fun c => ?_) (fun c => ?_)
    · have h := h.1 c
      refine aw_iconst (x := 1) d_X9_kindOf_19 (by decide) ?_
      exact aw_ret d_X9_kindOf_20 rfl rfl h
    · have h := h.2 c
      refine aw_iload_n (i := 0) d_X9_kindOf_13 rfl rfl ?_
      refine aw_bipush (x := 10) d_X9_kindOf_14 (by decide) ?_
      refine aw_icmp_ne (tgt := 21) d_X9_kindOf_16 (by decide) (fun c => ?_) (fun c => ?_)
      · have h := h.1 c
        refine aw_iload_n (i := 0) d_X9_kindOf_21 rfl rfl ?_
        refine aw_bipush (x := 97) d_X9_kindOf_22 (by decide) ?_
        refine aw_icmp_lt (tgt := 35) d_X9_kindOf_24 (by decide) (fun c => ?_) (fun c => ?_)
        · have h := h.1 c
          refine aw_iload_n (i := 0) d_X9_kindOf_35 rfl rfl ?_
          refine aw_bipush (x := 48) d_X9_kindOf_36 (by decide) ?_
          refine aw_icmp_lt (tgt := 51) d_X9_kindOf_38 (by decide) (fun c => ?_) (fun c => ?_)
          · have h := h.1 c
            refine aw_iconst (x := 4) d_X9_kindOf_51 (by decide) ?_
            exact aw_ret d_X9_kindOf_52 rfl rfl h
          · have h := h.2 c
            refine aw_iload_n (i := 0) d_X9_kindOf_41 rfl rfl ?_
            refine aw_bipush (x := 57) d_X9_kindOf_42 (by decide) ?_
            refine aw_icmp_gt (tgt := 51) d_X9_kindOf_44 (by decide) (fun c => ?_) (fun c => ?_)
            · have h := h.1 c
              refine aw_iconst (x := 4) d_X9_kindOf_51 (by decide) ?_
              exact aw_ret d_X9_kindOf_52 rfl rfl h
            · have h := h.2 c
              refine aw_iconst (x := 3) d_X9_kindOf_47 (by decide) ?_
              refine aw_goto (tgt := 52) d_X9_kindOf_48 (by decide) ?_
              exact aw_ret d_X9_kindOf_52 rfl rfl h
        · have h := h.2 c
          refine aw_iload_n (i := 0) d_X9_kindOf_27 rfl rfl ?_
          refine aw_bipush (x := 122) d_X9_kindOf_28 (by decide) ?_
          refine aw_icmp_gt (tgt := 35) d_X9_kindOf_30 (by decide) (fun c => ?_) (fun c => ?_)
          · have h := h.1 c
            refine aw_iload_n (i := 0) d_X9_kindOf_35 rfl rfl ?_
            refine aw_bipush (x := 48) d_X9_kindOf_36 (by decide) ?_
            refine aw_icmp_lt (tgt := 51) d_X9_kindOf_38 (by decide) (fun c => ?_) (fun c => ?_)
            · have h := h.1 c
              refine aw_iconst (x := 4) d_X9_kindOf_51 (by decide) ?_
              exact aw_ret d_X9_kindOf_52 rfl rfl h
            · have h := h.2 c
              refine aw_iload_n (i := 0) d_X9_kindOf_41 rfl rfl ?_
              refine aw_bipush (x := 57) d_X9_kindOf_42 (by decide) ?_
              refine aw_icmp_gt (tgt := 51) d_X9_kindOf_44 (by decide) (fun c => ?_) (fun c => ?_)
              · have h := h.1 c
                refine aw_iconst (x := 4) d_X9_kindOf_51 (by decide) ?_
                exact aw_ret d_X9_kindOf_52 rfl rfl h
              · have h := h.2 c
                refine aw_iconst (x := 3) d_X9_kindOf_47 (by decide) ?_
                refine aw_goto (tgt := 52) d_X9_kindOf_48 (by decide) ?_
                exact aw_ret d_X9_kindOf_52 rfl rfl h
          · have h := h.2 c
            refine aw_iconst (x := 2) d_X9_kindOf_33 (by decide) ?_
            exact aw_ret d_X9_kindOf_34 rfl rfl h
      · have h := h.2 c
        refine aw_iconst (x := 1) d_X9_kindOf_19 (by decide) ?_
        exact aw_ret d_X9_kindOf_20 rfl rfl h
  · have h := h.2 c
    refine aw_iconst (x := 0) d_X9_kindOf_5 (by decide) ?_
    exact aw_ret d_X9_kindOf_6 rfl rfl h
set_option maxRecDepth 20000 in
theorem vc_X9_atEnd {G : GG} {l : Launch} {d : Nat} {post : Option AVal → AS → Prop} {σ : AS} {kk nn : Nat}  (h : (((¬ (gI σ 10 3 0) = 0 → post (some (xI 0)) σ)) ∧ (((gI σ 10 3 0) = 0 → post (some (xI 1)) σ)))) : AW G l M_X9_atEnd d post σ kk nn 0 [some (xR (some (10, 0)))] [] := by
  refine aw_aload_n (i := 0) d_X9_atEnd_0 rfl rfl ?_
  refine aw_getI fl_RX9_46 rfl d_X9_atEnd_1 ?_
  refine aw_if_ne (tgt := 11) d_X9_atEnd_4 (by decide) (fun c => ?_) (fun c => ?_)
  · have h := h.1 c
    refine aw_iconst (x := 0) d_X9_atEnd_11 (by decide) ?_
    exact aw_ret d_X9_atEnd_12 rfl (by decide) h
  · have h := h.2 c
    refine aw_iconst (x := 1) d_X9_atEnd_7 (by decide) ?_
    refine aw_goto (tgt := 12) d_X9_atEnd_8 (by decide) ?_
    exact aw_ret d_X9_atEnd_12 rfl (by decide) h
set_option maxRecDepth 20000 in
theorem vc_X9_isWord {G : GG} {l : Launch} {d : Nat} {post : Option AVal → AS → Prop} {σ : AS} {kk nn : Nat} {p1 : Nat} (h : (((¬ (gI σ 10 3 0) = 2 → post (some (xI 0)) σ)) ∧ (((gI σ 10 3 0) = 2 → AMet G l M_J0_length_8abf5 d 0 0 [xR (some (30, p1))] σ (retI (fun x2 σ1 => (((((gI σ 10 5 0) - (gI σ 10 4 0)) = x2 → AW G l M_X9_isWord (d + 1) post σ1 kk nn 28 [some (xR (some (10, 0))), some (xR (some (30, p1))), some (xI 0)] [])) ∧ ((¬ ((gI σ 10 5 0) - (gI σ 10 4 0)) = x2 → post (some (xI 0)) σ1))))))))) : AW G l M_X9_isWord (d + 1) post σ kk nn 0 [some (xR (some (10, 0))), some (xR (some (30, p1))), none] [] := by
  refine aw_aload_n (i := 0) d_X9_isWord_0 rfl rfl ?_
  refine aw_getI fl_RX9_46 rfl d_X9_isWord_1 ?_
  refine aw_iconst (x := 2) d_X9_isWord_4 (by decide) ?_
  refine aw_icmp_ne (tgt := 24) d_X9_isWord_5 (by decide) (fun c => ?_) (fun c => ?_)
  · have h := h.1 c
    refine aw_iconst (x := 0) d_X9_isWord_24 (by decide) ?_
    exact aw_ret d_X9_isWord_25 rfl (by decide) h
  · have h := h.2 c
    refine aw_aload_n (i := 0) d_X9_isWord_8 rfl rfl ?_
    refine aw_getI fl_RX9_27 rfl d_X9_isWord_9 ?_
    refine aw_aload_n (i := 0) d_X9_isWord_12 rfl rfl ?_
    refine aw_getI fl_RX9_33 rfl d_X9_isWord_13 ?_
    refine aw_isub d_X9_isWord_16 ?_
    refine aw_aload_n (i := 1) d_X9_isWord_17 rfl rfl ?_
    refine aw_callV0 (as := []) mw_J0_length_8abf5 (by decide +kernel) ml_RX9_52 rfl d_X9_isWord_18 rfl (Nat.le_of_ble_eq_true rfl) (AMet.mono h (aw_toI (fun x2 σ1 h => ?_)))
    refine aw_icmp_eq (tgt := 26) d_X9_isWord_21 (by decide) (fun c => ?_) (fun c => ?_)
    · have h := h.1 c
      refine aw_iconst (x := 0) d_X9_isWord_26 (by decide) ?_
      refine aw_istore_n (i := 2) d_X9_isWord_27 rfl (by decide) ?_
      exact h
    · have h := h.2 c
      refine aw_iconst (x := 0) d_X9_isWord_24 (by decide) ?_
      exact aw_ret d_X9_isWord_25 rfl (by decide) h
set_option maxRecDepth 20000 in
theorem vc_X9_isWord_28 {G : GG} {l : Launch} {d : Nat} {post : Option AVal → AS → Prop} {σ : AS} {kk nn : Nat} {v1 : Nat} {v2 : Int32} (h : AMet G l M_J0_length_8abf5 d 0 0 [xR (some (30, v1))] σ (retI (fun x4 σ3 => (St σ3 ∧ (((x4 ≤ v2 → post (some (xI 1)) σ3)) ∧ ((¬ x4 ≤ v2 → AMet G l M_X7_at d 0 0 [xR (some (8, 0)), xI ((gI σ3 10 4 0) + v2)] σ3 (retI (fun x6 σ5 => AMet G l M_J0_charAt_5068e d 0 0 [xR (some (30, v1)), xI v2] σ5 (retI (fun x8 σ7 => (((x6 = x8 → AW G l M_X9_isWord (d + 1) post σ7 kk nn 28 [some (xR (some (10, 0))), some (xR (some (30, v1))), some (xI (v2 + 1))] [])) ∧ ((¬ x6 = x8 → post (some (xI 0)) σ7)))))))))))))) : AW G l M_X9_isWord (d + 1) post σ kk nn 28 [some (xR (some (10, 0))), some (xR (some (30, v1))), some (xI v2)] [] := by
  refine aw_iload_n (i := 2) d_X9_isWord_28 rfl rfl ?_
  refine aw_aload_n (i := 1) d_X9_isWord_29 rfl rfl ?_
  refine aw_callV0 (as := []) mw_J0_length_8abf5 (by decide +kernel) ml_RX9_52 rfl d_X9_isWord_30 rfl (Nat.le_of_ble_eq_true rfl) (AMet.mono h (aw_toI (fun x4 σ3 h => ?_)))
  obtain ⟨hS3, h⟩ := h
  refine aw_icmp_ge (tgt := 65) d_X9_isWord_33 (by decide) (fun c => ?_) (fun c => ?_)
  · have h := h.1 c
    refine aw_iconst (x := 1) d_X9_isWord_65 (by decide) ?_
    exact aw_ret d_X9_isWord_66 rfl (by decide) h
  · have h := h.2 c
    refine aw_aload_n (i := 0) d_X9_isWord_36 rfl rfl ?_
    refine aw_getRv fl_RX9_14 rfl (r := some (8, 0)) (St.get hS3 10 2 0 8 0 (by decide)) d_X9_isWord_37 ?_
    refine aw_aload_n (i := 0) d_X9_isWord_40 rfl rfl ?_
    refine aw_getI fl_RX9_33 rfl d_X9_isWord_41 ?_
    refine aw_iload_n (i := 2) d_X9_isWord_44 rfl rfl ?_
    refine aw_iadd d_X9_isWord_45 ?_
    refine aw_callV0 (as := [xI ((gI σ3 10 4 0) + v2)]) mw_X7_at (by decide +kernel) ml_RX9_39 rfl d_X9_isWord_46 rfl (Nat.le_of_ble_eq_true rfl) (AMet.mono h (aw_toI (fun x6 σ5 h => ?_)))
    refine aw_aload_n (i := 1) d_X9_isWord_49 rfl rfl ?_
    refine aw_iload_n (i := 2) d_X9_isWord_50 rfl rfl ?_
    refine aw_callV0 (as := [xI v2]) mw_J0_charAt_5068e (by decide +kernel) ml_RX9_58 rfl d_X9_isWord_51 rfl (Nat.le_of_ble_eq_true rfl) (AMet.mono h (aw_toI (fun x8 σ7 h => ?_)))
    refine aw_icmp_eq (tgt := 59) d_X9_isWord_54 (by decide) (fun c => ?_) (fun c => ?_)
    · have h := h.1 c
      refine aw_iinc (i := 2) (v := v2 + 1) d_X9_isWord_59 rfl rfl (by decide) ?_
      refine aw_goto (tgt := 28) d_X9_isWord_62 (by decide) ?_
      exact h
    · have h := h.2 c
      refine aw_iconst (x := 0) d_X9_isWord_57 (by decide) ?_
      exact aw_ret d_X9_isWord_58 rfl (by decide) h
set_option maxRecDepth 20000 in
theorem vc_X9_isSign {G : GG} {l : Launch} {d : Nat} {post : Option AVal → AS → Prop} {σ : AS} {kk nn : Nat} {a1 : Int32} (hS : St σ) (h : (((¬ (gI σ 10 3 0) = 4 → post (some (xI 0)) σ)) ∧ (((gI σ 10 3 0) = 4 → AMet G l M_X7_at d 0 0 [xR (some (8, 0)), xI (gI σ 10 4 0)] σ (retI (fun x2 σ1 => (((¬ x2 = a1 → post (some (xI 0)) σ1)) ∧ ((x2 = a1 → post (some (xI 1)) σ1))))))))) : AW G l M_X9_isSign (d + 1) post σ kk nn 0 [some (xR (some (10, 0))), some (xI a1)] [] := by
  refine aw_aload_n (i := 0) d_X9_isSign_0 rfl rfl ?_
  refine aw_getI fl_RX9_46 rfl d_X9_isSign_1 ?_
  refine aw_iconst (x := 4) d_X9_isSign_4 (by decide) ?_
  refine aw_icmp_ne (tgt := 27) d_X9_isSign_5 (by decide) (fun c => ?_) (fun c => ?_)
  · have h := h.1 c
    refine aw_iconst (x := 0) d_X9_isSign_27 (by decide) ?_
    exact aw_ret d_X9_isSign_28 rfl (by decide) h
  · have h := h.2 c
    refine aw_aload_n (i := 0) d_X9_isSign_8 rfl rfl ?_
    refine aw_getRv fl_RX9_14 rfl (r := some (8, 0)) (St.get hS 10 2 0 8 0 (by decide)) d_X9_isSign_9 ?_
    refine aw_aload_n (i := 0) d_X9_isSign_12 rfl rfl ?_
    refine aw_getI fl_RX9_33 rfl d_X9_isSign_13 ?_
    refine aw_callV0 (as := [xI (gI σ 10 4 0)]) mw_X7_at (by decide +kernel) ml_RX9_39 rfl d_X9_isSign_16 rfl (Nat.le_of_ble_eq_true rfl) (AMet.mono h (aw_toI (fun x2 σ1 h => ?_)))
    refine aw_iload_n (i := 1) d_X9_isSign_19 rfl rfl ?_
    refine aw_icmp_ne (tgt := 27) d_X9_isSign_20 (by decide) (fun c => ?_) (fun c => ?_)
    · have h := h.1 c
      refine aw_iconst (x := 0) d_X9_isSign_27 (by decide) ?_
      exact aw_ret d_X9_isSign_28 rfl (by decide) h
    · have h := h.2 c
      refine aw_iconst (x := 1) d_X9_isSign_23 (by decide) ?_
      refine aw_goto (tgt := 28) d_X9_isSign_24 (by decide) ?_
      exact aw_ret d_X9_isSign_28 rfl (by decide) h
set_option maxRecDepth 20000 in
theorem vc_X9_passWord {G : GG} {l : Launch} {d : Nat} {post : Option AVal → AS → Prop} {σ : AS} {kk nn : Nat} {p1 : Nat} (h : AMet G l M_X9_isWord d 0 0 [xR (some (10, 0)), xR (some (30, p1))] σ (retI (fun x2 σ1 => (((¬ x2 = 0 → AMet G l M_X9_advance d 0 0 [xR (some (10, 0))] σ1 (retV (fun σ3 => post (some (xI 1)) σ3)))) ∧ ((x2 = 0 → AMet G l M_X9_fail d 0 0 [xR (some (10, 0)), xI 1] σ1 (retI (fun x5 σ4 => (narrow .boolean (.int x5) = .int x5 ∧ post (some (xI x5)) σ4))))))))) : AW G l M_X9_passWord (d + 1) post σ kk nn 0 [some (xR (some (10, 0))), some (xR (some (30, p1)))] [] := by
  refine aw_aload_n (i := 0) d_X9_passWord_0 rfl rfl ?_
  refine aw_aload_n (i := 1) d_X9_passWord_1 rfl rfl ?_
  refine aw_callV0 (as := [xR (some (30, p1))]) mw_X9_isWord (by decide +kernel) ml_RX9_62 rfl d_X9_passWord_2 rfl (Nat.le_of_ble_eq_true rfl) (AMet.mono h (aw_toI (fun x2 σ1 h => ?_)))
  refine aw_if_ne (tgt := 14) d_X9_passWord_5 (by decide) (fun c => ?_) (fun c => ?_)
  · have h := h.1 c
    refine aw_aload_n (i := 0) d_X9_passWord_14 rfl rfl ?_
    refine aw_callV0 (as := []) mw_X9_advance (by decide +kernel) ml_RX9_30 rfl d_X9_passWord_15 rfl (Nat.le_of_ble_eq_true rfl) (AMet.mono h (aw_toV (fun σ3 h => ?_)))
    refine aw_iconst (x := 1) d_X9_passWord_18 (by decide) ?_
    exact aw_ret d_X9_passWord_19 rfl (by decide) h
  · have h := h.2 c
    refine aw_aload_n (i := 0) d_X9_passWord_8 rfl rfl ?_
    refine aw_iconst (x := 1) d_X9_passWord_9 (by decide) ?_
    refine aw_callV0 (as := [xI 1]) mw_X9_fail (by decide +kernel) ml_RX9_66 rfl d_X9_passWord_10 rfl (Nat.le_of_ble_eq_true rfl) (AMet.mono h (aw_toI (fun x5 σ4 h => ?_)))
    exact aw_ret d_X9_passWord_13 rfl h.1 h.2
set_option maxRecDepth 20000 in
theorem vc_X9_passSign {G : GG} {l : Launch} {d : Nat} {post : Option AVal → AS → Prop} {σ : AS} {kk nn : Nat} {a1 : Int32} (h : AMet G l M_X9_isSign d 0 0 [xR (some (10, 0)), xI a1] σ (retI (fun x2 σ1 => (((¬ x2 = 0 → AMet G l M_X9_advance d 0 0 [xR (some (10, 0))] σ1 (retV (fun σ3 => post (some (xI 1)) σ3)))) ∧ ((x2 = 0 → AMet G l M_X9_fail d 0 0 [xR (some (10, 0)), xI 1] σ1 (retI (fun x5 σ4 => (narrow .boolean (.int x5) = .int x5 ∧ post (some (xI x5)) σ4))))))))) : AW G l M_X9_passSign (d + 1) post σ kk nn 0 [some (xR (some (10, 0))), some (xI a1)] [] := by
  refine aw_aload_n (i := 0) d_X9_passSign_0 rfl rfl ?_
  refine aw_iload_n (i := 1) d_X9_passSign_1 rfl rfl ?_
  refine aw_callV0 (as := [xI a1]) mw_X9_isSign (by decide +kernel) ml_RX9_70 rfl d_X9_passSign_2 rfl (Nat.le_of_ble_eq_true rfl) (AMet.mono h (aw_toI (fun x2 σ1 h => ?_)))
  refine aw_if_ne (tgt := 14) d_X9_passSign_5 (by decide) (fun c => ?_) (fun c => ?_)
  · have h := h.1 c
    refine aw_aload_n (i := 0) d_X9_passSign_14 rfl rfl ?_
    refine aw_callV0 (as := []) mw_X9_advance (by decide +kernel) ml_RX9_30 rfl d_X9_passSign_15 rfl (Nat.le_of_ble_eq_true rfl) (AMet.mono h (aw_toV (fun σ3 h => ?_)))
    refine aw_iconst (x := 1) d_X9_passSign_18 (by decide) ?_
    exact aw_ret d_X9_passSign_19 rfl (by decide) h
  · have h := h.2 c
    refine aw_aload_n (i := 0) d_X9_passSign_8 rfl rfl ?_
    refine aw_iconst (x := 1) d_X9_passSign_9 (by decide) ?_
    refine aw_callV0 (as := [xI 1]) mw_X9_fail (by decide +kernel) ml_RX9_66 rfl d_X9_passSign_10 rfl (Nat.le_of_ble_eq_true rfl) (AMet.mono h (aw_toI (fun x5 σ4 h => ?_)))
    exact aw_ret d_X9_passSign_13 rfl h.1 h.2
set_option maxRecDepth 20000 in
theorem vc_X9_passNumber {G : GG} {l : Launch} {d : Nat} {post : Option AVal → AS → Prop} {σ : AS} {kk nn : Nat} {a1 : Int32} {a2 : Int32} (h : (((¬ (gI σ 10 3 0) = 3 → AMet G l M_X9_fail d 0 0 [xR (some (10, 0)), xI 1] σ (retI (fun x2 σ1 => post (some (xI (-1))) σ1)))) ∧ (((gI σ 10 3 0) = 3 → (((((gI σ 10 5 0) - (gI σ 10 4 0)) ≤ 5 → AMet G l M_X11_within d 0 0 [xI (gI σ 10 6 0), xI a1, xI a2] σ (retI (fun x4 σ3 => (((¬ x4 = 0 → AMet G l M_X9_advance d 0 0 [xR (some (10, 0))] σ3 (retV (fun σ5 => post (some (xI (gI σ3 10 6 0))) σ5)))) ∧ ((x4 = 0 → AMet G l M_X9_fail d 0 0 [xR (some (10, 0)), xI 2] σ3 (retI (fun x7 σ6 => post (some (xI (-1))) σ6))))))))) ∧ ((¬ ((gI σ 10 5 0) - (gI σ 10 4 0)) ≤ 5 → AMet G l M_X9_fail d 0 0 [xR (some (10, 0)), xI 1] σ (retI (fun x9 σ8 => post (some (xI (-1))) σ8))))))))) : AW G l M_X9_passNumber (d + 1) post σ kk nn 0 [some (xR (some (10, 0))), some (xI a1), some (xI a2), none] [] := by
  refine aw_aload_n (i := 0) d_X9_passNumber_0 rfl rfl ?_
  refine aw_getI fl_RX9_46 rfl d_X9_passNumber_1 ?_
  refine aw_iconst (x := 3) d_X9_passNumber_4 (by decide) ?_
  refine aw_icmp_ne (tgt := 21) d_X9_passNumber_5 (by decide) (fun c => ?_) (fun c => ?_)
  · have h := h.1 c
    refine aw_aload_n (i := 0) d_X9_passNumber_21 rfl rfl ?_
    refine aw_iconst (x := 1) d_X9_passNumber_22 (by decide) ?_
    refine aw_callV0 (as := [xI 1]) mw_X9_fail (by decide +kernel) ml_RX9_66 rfl d_X9_passNumber_23 rfl (Nat.le_of_ble_eq_true rfl) (AMet.mono h (aw_toI (fun x2 σ1 h => ?_)))
    refine aw_popI d_X9_passNumber_26 ?_
    refine aw_iconst (x := -1) d_X9_passNumber_27 (by decide) ?_
    exact aw_ret d_X9_passNumber_28 rfl rfl h
  · have h := h.2 c
    refine aw_aload_n (i := 0) d_X9_passNumber_8 rfl rfl ?_
    refine aw_getI fl_RX9_27 rfl d_X9_passNumber_9 ?_
    refine aw_aload_n (i := 0) d_X9_passNumber_12 rfl rfl ?_
    refine aw_getI fl_RX9_33 rfl d_X9_passNumber_13 ?_
    refine aw_isub d_X9_passNumber_16 ?_
    refine aw_iconst (x := 5) d_X9_passNumber_17 (by decide) ?_
    refine aw_icmp_le (tgt := 29) d_X9_passNumber_18 (by decide) (fun c => ?_) (fun c => ?_)
    · have h := h.1 c
      refine aw_aload_n (i := 0) d_X9_passNumber_29 rfl rfl ?_
      refine aw_getI fl_RX9_49 rfl d_X9_passNumber_30 ?_
      refine aw_iload_n (i := 1) d_X9_passNumber_33 rfl rfl ?_
      refine aw_iload_n (i := 2) d_X9_passNumber_34 rfl rfl ?_
      refine aw_callSN0 (as := [xI (gI σ 10 6 0), xI a1, xI a2]) mw_X11_within ml_RX9_74 rfl d_X9_passNumber_35 rfl (Nat.le_of_ble_eq_true rfl) (AMet.mono h (aw_toI (fun x4 σ3 h => ?_)))
      refine aw_if_ne (tgt := 49) d_X9_passNumber_38 (by decide) (fun c => ?_) (fun c => ?_)
      · have h := h.1 c
        refine aw_aload_n (i := 0) d_X9_passNumber_49 rfl rfl ?_
        refine aw_getI fl_RX9_49 rfl d_X9_passNumber_50 ?_
        refine aw_istore_n (i := 3) d_X9_passNumber_53 rfl (by decide) ?_
        refine aw_aload_n (i := 0) d_X9_passNumber_54 rfl rfl ?_
        refine aw_callV0 (as := []) mw_X9_advance (by decide +kernel) ml_RX9_30 rfl d_X9_passNumber_55 rfl (Nat.le_of_ble_eq_true rfl) (AMet.mono h (aw_toV (fun σ5 h => ?_)))
        refine aw_iload_n (i := 3) d_X9_passNumber_58 rfl rfl ?_
        exact aw_ret d_X9_passNumber_59 rfl rfl h
      · have h := h.2 c
        refine aw_aload_n (i := 0) d_X9_passNumber_41 rfl rfl ?_
        refine aw_iconst (x := 2) d_X9_passNumber_42 (by decide) ?_
        refine aw_callV0 (as := [xI 2]) mw_X9_fail (by decide +kernel) ml_RX9_66 rfl d_X9_passNumber_43 rfl (Nat.le_of_ble_eq_true rfl) (AMet.mono h (aw_toI (fun x7 σ6 h => ?_)))
        refine aw_popI d_X9_passNumber_46 ?_
        refine aw_iconst (x := -1) d_X9_passNumber_47 (by decide) ?_
        exact aw_ret d_X9_passNumber_48 rfl rfl h
    · have h := h.2 c
      refine aw_aload_n (i := 0) d_X9_passNumber_21 rfl rfl ?_
      refine aw_iconst (x := 1) d_X9_passNumber_22 (by decide) ?_
      refine aw_callV0 (as := [xI 1]) mw_X9_fail (by decide +kernel) ml_RX9_66 rfl d_X9_passNumber_23 rfl (Nat.le_of_ble_eq_true rfl) (AMet.mono h (aw_toI (fun x9 σ8 h => ?_)))
      refine aw_popI d_X9_passNumber_26 ?_
      refine aw_iconst (x := -1) d_X9_passNumber_27 (by decide) ?_
      exact aw_ret d_X9_passNumber_28 rfl rfl h
set_option maxRecDepth 20000 in
theorem vc_X9_passNumberAfter {G : GG} {l : Launch} {d : Nat} {post : Option AVal → AS → Prop} {σ : AS} {kk nn : Nat} {p1 : Nat} {a2 : Int32} {a3 : Int32} (h : AMet G l M_X9_passWord d 0 0 [xR (some (10, 0)), xR (some (30, p1))] σ (retI (fun x2 σ1 => (((x2 = 0 → post (some (xI (-1))) σ1)) ∧ ((¬ x2 = 0 → AMet G l M_X9_passNumber d 0 0 [xR (some (10, 0)), xI a2, xI a3] σ1 (retI (fun x4 σ3 => post (some (xI x4)) σ3)))))))) : AW G l M_X9_passNumberAfter (d + 1) post σ kk nn 0 [some (xR (some (10, 0))), some (xR (some (30, p1))), some (xI a2), some (xI a3)] [] := by
  refine aw_aload_n (i := 0) d_X9_passNumberAfter_0 rfl rfl ?_
  refine aw_aload_n (i := 1) d_X9_passNumberAfter_1 rfl rfl ?_
  refine aw_callV0 (as := [xR (some (30, p1))]) mw_X9_passWord (by decide +kernel) ml_RX9_78 rfl d_X9_passNumberAfter_2 rfl (Nat.le_of_ble_eq_true rfl) (AMet.mono h (aw_toI (fun x2 σ1 h => ?_)))
  refine aw_if_eq (tgt := 17) d_X9_passNumberAfter_5 (by decide) (fun c => ?_) (fun c => ?_)
  · have h := h.1 c
    refine aw_iconst (x := -1) d_X9_passNumberAfter_17 (by decide) ?_
    exact aw_ret d_X9_passNumberAfter_18 rfl rfl h
  · have h := h.2 c
    refine aw_aload_n (i := 0) d_X9_passNumberAfter_8 rfl rfl ?_
    refine aw_iload_n (i := 2) d_X9_passNumberAfter_9 rfl rfl ?_
    refine aw_iload_n (i := 3) d_X9_passNumberAfter_10 rfl rfl ?_
    refine aw_callV0 (as := [xI a2, xI a3]) mw_X9_passNumber (by decide +kernel) ml_RX9_81 rfl d_X9_passNumberAfter_11 rfl (Nat.le_of_ble_eq_true rfl) (AMet.mono h (aw_toI (fun x4 σ3 h => ?_)))
    refine aw_goto (tgt := 18) d_X9_passNumberAfter_14 (by decide) ?_
    exact aw_ret d_X9_passNumberAfter_18 rfl rfl h
set_option maxRecDepth 20000 in
theorem vc_X9_fail {G : GG} {l : Launch} {d : Nat} {post : Option AVal → AS → Prop} {σ : AS} {kk nn : Nat} {a1 : Int32} (h : post (some (xI 0)) (sI (sI σ 10 0 0 a1) 10 1 0 (gI σ 10 4 0))) : AW G l M_X9_fail d post σ kk nn 0 [some (xR (some (10, 0))), some (xI a1)] [] := by
  refine aw_aload_n (i := 0) d_X9_fail_0 rfl rfl ?_
  refine aw_iload_n (i := 1) d_X9_fail_1 rfl rfl ?_
  refine aw_putI fl_RX9_24 (by decide) (fin_no (r := (RX9, TX9, 7)) rfl rfl) d_X9_fail_2 rfl ⟨rfl, rfl⟩ ?_
  refine aw_aload_n (i := 0) d_X9_fail_5 rfl rfl ?_
  refine aw_aload_n (i := 0) d_X9_fail_6 rfl rfl ?_
  refine aw_getIv fl_RX9_33 rfl (x := gI σ 10 4 0) rfl d_X9_fail_7 ?_
  refine aw_putI fl_RX9_20 (by decide) (fin_no (r := (RX9, TX9, 7)) rfl rfl) d_X9_fail_10 rfl ⟨rfl, rfl⟩ ?_
  refine aw_iconst (x := 0) d_X9_fail_13 (by decide) ?_
  exact aw_ret d_X9_fail_14 rfl (by decide) h
