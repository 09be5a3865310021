set_option maxRecDepth 20000 in
theorem vc_X11_init {G : GG} {l : Launch} {d : Nat} {post : Option AVal → AS → Prop} {σ : AS} {kk nn : Nat}  (h : (∃ kk1 nn2 : Nat, (kk = kk1 + 1 ∧ nn = nn2 + 4 ∧ ((∃ mc6 ms7 kk4 nn5 : Nat, (kk1 = kk4 + mc6 ∧ nn2 = nn5 + ms7 ∧ (AMet G l M_X6_init d mc6 ms7 [xR (some (7, (cnt σ 7)))] (nO σ 7) (retV (fun σ3 => (∃ kk8 nn9 : Nat, (kk4 = kk8 + 1 ∧ nn5 = nn9 + 2 ∧ ((∃ mc13 ms14 kk11 nn12 : Nat, (kk8 = kk11 + mc13 ∧ nn9 = nn12 + ms14 ∧ (AMet G l M_X2_init d mc13 ms14 [xR (some (3, (cnt (sR (sR σ3 12 6 0 (some (7, (cnt σ 7)))) 12 0 0 (gR σ3 7 2 (cnt σ 7))) 3)))] (nO (sR (sR σ3 12 6 0 (some (7, (cnt σ 7)))) 12 0 0 (gR σ3 7 2 (cnt σ 7))) 3) (retV (fun σ10 => (∃ j15 : Nat, ((gR σ10 3 0 (cnt (sR (sR σ3 12 6 0 (some (7, (cnt σ 7)))) 12 0 0 (gR σ3 7 2 (cnt σ 7))) 3)) = some (10, j15) ∧ ((∃ kk16 nn17 : Nat, (kk11 = kk16 + 1 ∧ nn12 = nn17 + 3 ∧ (AMet G l M_Jx4a65c_init_da8c8 d 0 0 [xR (some (0, (cnt (sR (sR (sR σ10 12 3 0 (some (3, (cnt (sR (sR σ3 12 6 0 (some (7, (cnt σ 7)))) 12 0 0 (gR σ3 7 2 (cnt σ 7))) 3)))) 12 2 0 (some (10, j15))) 12 1 0 (gR σ10 10 2 j15)) 0)))] (nO (sR (sR (sR σ10 12 3 0 (some (3, (cnt (sR (sR σ3 12 6 0 (some (7, (cnt σ 7)))) 12 0 0 (gR σ3 7 2 (cnt σ 7))) 3)))) 12 2 0 (some (10, j15))) 12 1 0 (gR σ10 10 2 j15)) 0) (retV (fun σ18 => (∃ kk19 nn20 : Nat, (kk16 = kk19 + 1 ∧ nn17 = nn20 + 3 ∧ ((∃ mc24 ms25 kk22 nn23 : Nat, (kk19 = kk22 + mc24 ∧ nn20 = nn23 + ms25 ∧ (AMet G l M_X4_init d mc24 ms25 [xR (some (5, (cnt (sR σ18 12 4 0 (some (0, (cnt (sR (sR (sR σ10 12 3 0 (some (3, (cnt (sR (sR σ3 12 6 0 (some (7, (cnt σ 7)))) 12 0 0 (gR σ3 7 2 (cnt σ 7))) 3)))) 12 2 0 (some (10, j15))) 12 1 0 (gR σ10 10 2 j15)) 0)))) 5)))] (nO (sR σ18 12 4 0 (some (0, (cnt (sR (sR (sR σ10 12 3 0 (some (3, (cnt (sR (sR σ3 12 6 0 (some (7, (cnt σ 7)))) 12 0 0 (gR σ3 7 2 (cnt σ 7))) 3)))) 12 2 0 (some (10, j15))) 12 1 0 (gR σ10 10 2 j15)) 0)))) 5) (retV (fun σ21 => (∃ kk26 nn27 : Nat, (kk22 = kk26 + 1 ∧ nn23 = nn27 + 3 ∧ ((∃ mc31 ms32 kk29 nn30 : Nat, (kk26 = kk29 + mc31 ∧ nn27 = nn30 + ms32 ∧ (AMet G l M_X3_init d mc31 ms32 [xR (some (4, (cnt (sR σ21 12 5 0 (some (5, (cnt (sR σ18 12 4 0 (some (0, (cnt (sR (sR (sR σ10 12 3 0 (some (3, (cnt (sR (sR σ3 12 6 0 (some (7, (cnt σ 7)))) 12 0 0 (gR σ3 7 2 (cnt σ 7))) 3)))) 12 2 0 (some (10, j15))) 12 1 0 (gR σ10 10 2 j15)) 0)))) 5)))) 4)))] (nO (sR σ21 12 5 0 (some (5, (cnt (sR σ18 12 4 0 (some (0, (cnt (sR (sR (sR σ10 12 3 0 (some (3, (cnt (sR (sR σ3 12 6 0 (some (7, (cnt σ 7)))) 12 0 0 (gR σ3 7 2 (cnt σ 7))) 3)))) 12 2 0 (some (10, j15))) 12 1 0 (gR σ10 10 2 j15)) 0)))) 5)))) 4) (retV (fun σ28 => (∃ kk33 nn34 : Nat, (kk29 = kk33 + 1 ∧ nn30 = nn34 + 3 ∧ (AMet G l M_Jx4a65c_init_da8c8 d 0 0 [xR (some (0, (cnt (sR σ28 12 7 0 (some (4, (cnt (sR σ21 12 5 0 (some (5, (cnt (sR σ18 12 4 0 (some (0, (cnt (sR (sR (sR σ10 12 3 0 (some (3, (cnt (sR (sR σ3 12 6 0 (some (7, (cnt σ 7)))) 12 0 0 (gR σ3 7 2 (cnt σ 7))) 3)))) 12 2 0 (some (10, j15))) 12 1 0 (gR σ10 10 2 j15)) 0)))) 5)))) 4)))) 0)))] (nO (sR σ28 12 7 0 (some (4, (cnt (sR σ21 12 5 0 (some (5, (cnt (sR σ18 12 4 0 (some (0, (cnt (sR (sR (sR σ10 12 3 0 (some (3, (cnt (sR (sR σ3 12 6 0 (some (7, (cnt σ 7)))) 12 0 0 (gR σ3 7 2 (cnt σ 7))) 3)))) 12 2 0 (some (10, j15))) 12 1 0 (gR σ10 10 2 j15)) 0)))) 5)))) 4)))) 0) (retV (fun σ35 => (∃ kk36 nn37 : Nat, (kk33 = kk36 + 1 ∧ nn34 = nn37 + 2 ∧ ((∃ mc41 ms42 kk39 nn40 : Nat, (kk36 = kk39 + mc41 ∧ nn37 = nn40 + ms42 ∧ (AMet G l M_X7_init d mc41 ms42 [xR (some (8, (cnt (sR σ35 12 8 0 (some (0, (cnt (sR σ28 12 7 0 (some (4, (cnt (sR σ21 12 5 0 (some (5, (cnt (sR σ18 12 4 0 (some (0, (cnt (sR (sR (sR σ10 12 3 0 (some (3, (cnt (sR (sR σ3 12 6 0 (some (7, (cnt σ 7)))) 12 0 0 (gR σ3 7 2 (cnt σ 7))) 3)))) 12 2 0 (some (10, j15))) 12 1 0 (gR σ10 10 2 j15)) 0)))) 5)))) 4)))) 0)))) 8))), xI 40] (nO (sR σ35 12 8 0 (some (0, (cnt (sR σ28 12 7 0 (some (4, (cnt (sR σ21 12 5 0 (some (5, (cnt (sR σ18 12 4 0 (some (0, (cnt (sR (sR (sR σ10 12 3 0 (some (3, (cnt (sR (sR σ3 12 6 0 (some (7, (cnt σ 7)))) 12 0 0 (gR σ3 7 2 (cnt σ 7))) 3)))) 12 2 0 (some (10, j15))) 12 1 0 (gR σ10 10 2 j15)) 0)))) 5)))) 4)))) 0)))) 8) (retV (fun σ38 => post none (sR σ38 12 9 0 (some (8, (cnt (sR σ35 12 8 0 (some (0, (cnt (sR σ28 12 7 0 (some (4, (cnt (sR σ21 12 5 0 (some (5, (cnt (sR σ18 12 4 0 (some (0, (cnt (sR (sR (sR σ10 12 3 0 (some (3, (cnt (sR (sR σ3 12 6 0 (some (7, (cnt σ 7)))) 12 0 0 (gR σ3 7 2 (cnt σ 7))) 3)))) 12 2 0 (some (10, j15))) 12 1 0 (gR σ10 10 2 j15)) 0)))) 5)))) 4)))) 0)))) 8)))))))))))))))))))))))))))))))))))))))))))))))))))))))))) : AW G l M_X11_init (d + 1) post σ kk nn 0 [some (xR (some (12, 0)))] [] := by
  refine aw_aload_n (i := 0) d_X11_init_0 rfl rfl ?_
  refine aw_objInit oi_RX11_1 d_X11_init_1 (Nat.le_of_ble_eq_true rfl) ?_
  refine aw_aload_n (i := 0) d_X11_init_4 rfl rfl ?_
  obtain ⟨kk1, nn2, ek, en, h⟩ := h
  rw [ek, en]
  refine aw_new (c := 7) (n := 4) (r := (RX6, TX6, 4)) rfl rfl nw_RX11_7 d_X11_init_5 ?_
  refine aw_dupR d_X11_init_8 ?_
  obtain ⟨mc6, ms7, kk4, nn5, ek, en, h⟩ := h
  rw [ek, en]
  refine aw_callIN (as := []) mw_X6_init rfl rfl ml_RX11_9 rfl d_X11_init_9 rfl (Nat.le_of_ble_eq_true rfl) (AMet.mono h (aw_toV (fun σ3 h => ?_)))
  refine aw_putR fl_RX11_10 (by decide) (fin_init (r := (RX11, TX11, 11)) rfl rfl rfl) d_X11_init_12 rfl (by decide) ?_
  refine aw_aload_n (i := 0) d_X11_init_15 rfl rfl ?_
  refine aw_aload_n (i := 0) d_X11_init_16 rfl rfl ?_
  refine aw_getRv fl_RX11_10 rfl (r := (some (7, (cnt σ 7)))) (gR_self (σ := σ3) (c := 12) (f := 6) (i := 0) (v := (some (7, (cnt σ 7))))) d_X11_init_17 ?_
  refine aw_getRv fl_RX11_16 rfl (r := (gR σ3 7 2 (cnt σ 7))) rfl d_X11_init_20 ?_
  refine aw_putR fl_RX11_20 (by decide) (fin_init (r := (RX11, TX11, 11)) rfl rfl rfl) d_X11_init_23 rfl (by decide) ?_
  refine aw_aload_n (i := 0) d_X11_init_26 rfl rfl ?_
  obtain ⟨kk8, nn9, ek, en, h⟩ := h
  rw [ek, en]
  refine aw_new (c := 3) (n := 2) (r := (RX2, TX2, 2)) rfl rfl nw_RX11_21 d_X11_init_27 ?_
  refine aw_dupR d_X11_init_30 ?_
  obtain ⟨mc13, ms14, kk11, nn12, ek, en, h⟩ := h
  rw [ek, en]
  refine aw_callIN (as := []) mw_X2_init rfl rfl ml_RX11_23 rfl d_X11_init_31 rfl (Nat.le_of_ble_eq_true rfl) (AMet.mono h (aw_toV (fun σ10 h => ?_)))
  refine aw_putR fl_RX11_24 (by decide) (fin_init (r := (RX11, TX11, 11)) rfl rfl rfl) d_X11_init_34 rfl (by decide) ?_
  refine aw_aload_n (i := 0) d_X11_init_37 rfl rfl ?_
  refine aw_aload_n (i := 0) d_X11_init_38 rfl rfl ?_
  refine aw_getRv fl_RX11_24 rfl (r := (some (3, (cnt (sR (sR σ3 12 6 0 (some (7, (cnt σ 7)))) 12 0 0 (gR σ3 7 2 (cnt σ 7))) 3)))) (gR_self (σ := σ10) (c := 12) (f := 3) (i := 0) (v := (some (3, (cnt (sR (sR σ3 12 6 0 (some (7, (cnt σ 7)))) 12 0 0 (gR σ3 7 2 (cnt σ 7))) 3))))) d_X11_init_39 ?_
  refine aw_getRv fl_RX11_28 rfl (r := (gR σ10 3 0 (cnt (sR (sR σ3 12 6 0 (some (7, (cnt σ 7)))) 12 0 0 (gR σ3 7 2 (cnt σ 7))) 3))) rfl d_X11_init_42 ?_
  refine aw_putR fl_RX11_32 (by decide) (fin_init (r := (RX11, TX11, 11)) rfl rfl rfl) d_X11_init_45 rfl (by decide) ?_
  refine aw_aload_n (i := 0) d_X11_init_48 rfl rfl ?_
  refine aw_aload_n (i := 0) d_X11_init_49 rfl rfl ?_
  refine aw_getRv fl_RX11_32 rfl (r := (gR σ10 3 0 (cnt (sR (sR σ3 12 6 0 (some (7, (cnt σ 7)))) 12 0 0 (gR σ3 7 2 (cnt σ 7))) 3))) (gR_self (σ := (sR σ10 12 3 0 (some (3, (cnt (sR (sR σ3 12 6 0 (some (7, (cnt σ 7)))) 12 0 0 (gR σ3 7 2 (cnt σ 7))) 3))))) (c := 12) (f := 2) (i := 0) (v := (gR σ10 3 0 (cnt (sR (sR σ3 12 6 0 (some (7, (cnt σ 7)))) 12 0 0 (gR σ3 7 2 (cnt σ 7))) 3)))) d_X11_init_50 ?_
  obtain ⟨j15, ej15, h⟩ := h
  rw [ej15]
  refine aw_getRv fl_RX11_33 rfl (r := (gR σ10 10 2 j15)) rfl d_X11_init_53 ?_
  refine aw_putR fl_RX11_39 (by decide) (fin_init (r := (RX11, TX11, 11)) rfl rfl rfl) d_X11_init_56 rfl (by decide) ?_
  refine aw_aload_n (i := 0) d_X11_init_59 rfl rfl ?_
  obtain ⟨kk16, nn17, ek, en, h⟩ := h
  rw [ek, en]
  refine aw_new (c := 0) (n := 3) (r := (RJx4a65c, TJx4a65c, 3)) rfl rfl nw_RX11_40 d_X11_init_60 ?_
  refine aw_dupR d_X11_init_63 ?_
  refine aw_callI0 (as := []) mw_Jx4a65c_init_da8c8 rfl rfl ml_RX11_42 rfl d_X11_init_64 rfl (Nat.le_of_ble_eq_true rfl) (AMet.mono h (aw_toV (fun σ18 h => ?_)))
  refine aw_putR fl_RX11_43 (by decide) (fin_init (r := (RX11, TX11, 11)) rfl rfl rfl) d_X11_init_67 rfl (by decide) ?_
  refine aw_aload_n (i := 0) d_X11_init_70 rfl rfl ?_
  obtain ⟨kk19, nn20, ek, en, h⟩ := h
  rw [ek, en]
  refine aw_new (c := 5) (n := 3) (r := (RX4, TX4, 3)) rfl rfl nw_RX11_46 d_X11_init_71 ?_
  refine aw_dupR d_X11_init_74 ?_
  obtain ⟨mc24, ms25, kk22, nn23, ek, en, h⟩ := h
  rw [ek, en]
  refine aw_callIN (as := []) mw_X4_init rfl rfl ml_RX11_48 rfl d_X11_init_75 rfl (Nat.le_of_ble_eq_true rfl) (AMet.mono h (aw_toV (fun σ21 h => ?_)))
  refine aw_putR fl_RX11_49 (by decide) (fin_init (r := (RX11, TX11, 11)) rfl rfl rfl) d_X11_init_78 rfl (by decide) ?_
  refine aw_aload_n (i := 0) d_X11_init_81 rfl rfl ?_
  obtain ⟨kk26, nn27, ek, en, h⟩ := h
  rw [ek, en]
  refine aw_new (c := 4) (n := 3) (r := (RX3, TX3, 3)) rfl rfl nw_RX11_53 d_X11_init_82 ?_
  refine aw_dupR d_X11_init_85 ?_
  obtain ⟨mc31, ms32, kk29, nn30, ek, en, h⟩ := h
  rw [ek, en]
  refine aw_callIN (as := []) mw_X3_init rfl rfl ml_RX11_55 rfl d_X11_init_86 rfl (Nat.le_of_ble_eq_true rfl) (AMet.mono h (aw_toV (fun σ28 h => ?_)))
  refine aw_putR fl_RX11_56 (by decide) (fin_init (r := (RX11, TX11, 11)) rfl rfl rfl) d_X11_init_89 rfl (by decide) ?_
  refine aw_aload_n (i := 0) d_X11_init_92 rfl rfl ?_
  obtain ⟨kk33, nn34, ek, en, h⟩ := h
  rw [ek, en]
  refine aw_new (c := 0) (n := 3) (r := (RJx4a65c, TJx4a65c, 3)) rfl rfl nw_RX11_40 d_X11_init_93 ?_
  refine aw_dupR d_X11_init_96 ?_
  refine aw_callI0 (as := []) mw_Jx4a65c_init_da8c8 rfl rfl ml_RX11_42 rfl d_X11_init_97 rfl (Nat.le_of_ble_eq_true rfl) (AMet.mono h (aw_toV (fun σ35 h => ?_)))
  refine aw_putR fl_RX11_60 (by decide) (fin_init (r := (RX11, TX11, 11)) rfl rfl rfl) d_X11_init_100 rfl (by decide) ?_
  refine aw_aload_n (i := 0) d_X11_init_103 rfl rfl ?_
  obtain ⟨kk36, nn37, ek, en, h⟩ := h
  rw [ek, en]
  refine aw_new (c := 8) (n := 2) (r := (RX7, TX7, 2)) rfl rfl nw_RX11_63 d_X11_init_104 ?_
  refine aw_dupR d_X11_init_107 ?_
  refine aw_bipush (x := 40) d_X11_init_108 (by decide) ?_
  obtain ⟨mc41, ms42, kk39, nn40, ek, en, h⟩ := h
  rw [ek, en]
  refine aw_callI (as := [xI 40]) mw_X7_init rfl rfl ml_RX11_65 rfl d_X11_init_110 rfl (Nat.le_of_ble_eq_true rfl) (AMet.mono h (aw_toV (fun σ38 h => ?_)))
  refine aw_putR fl_RX11_68 (by decide) (fin_init (r := (RX11, TX11, 11)) rfl rfl rfl) d_X11_init_113 rfl (by decide) ?_
  exact aw_vret d_X11_init_116 rfl h
set_option maxRecDepth 20000 in
theorem vc_X11_person {G : GG} {l : Launch} {d : Nat} {post : Option AVal → AS → Prop} {σ : AS} {kk nn : Nat} {a1 : Int32} {a2 : Int32} {a3 : Int32} {a4 : Int32} {a5 : Int32} (h : AMet G l M_X11_within d 0 0 [xI a1, xI 0, xI 99] σ (retI (fun x2 σ1 => (((x2 = 0 → AW G l M_X11_person (d + 1) post σ1 kk nn 57 [some (xR (some (12, 0))), some (xI a1), some (xI a2), some (xI a3), some (xI a4), some (xI a5), none, none] [])) ∧ ((¬ x2 = 0 → AMet G l M_X11_within d 0 0 [xI a2, xI 50, xI 230] σ1 (retI (fun x4 σ3 => (((x4 = 0 → AW G l M_X11_person (d + 1) post σ3 kk nn 57 [some (xR (some (12, 0))), some (xI a1), some (xI a2), some (xI a3), some (xI a4), some (xI a5), none, none] [])) ∧ ((¬ x4 = 0 → AMet G l M_X11_within d 0 0 [xI a3, xI 0, xI 65535] σ3 (retI (fun x6 σ5 => (((x6 = 0 → AW G l M_X11_person (d + 1) post σ5 kk nn 57 [some (xR (some (12, 0))), some (xI a1), some (xI a2), some (xI a3), some (xI a4), some (xI a5), none, none] [])) ∧ ((¬ x6 = 0 → AMet G l M_X11_within d 0 0 [xI a4, xI 0, xI 3] σ5 (retI (fun x8 σ7 => (((x8 = 0 → AW G l M_X11_person (d + 1) post σ7 kk nn 57 [some (xR (some (12, 0))), some (xI a1), some (xI a2), some (xI a3), some (xI a4), some (xI a5), none, none] [])) ∧ ((¬ x8 = 0 → AMet G l M_X11_within d 0 0 [xI a5, xI 1, xI 30] σ7 (retI (fun x10 σ9 => (St σ9 ∧ (((x10 = 0 → AW G l M_X11_person (d + 1) post σ9 kk nn 57 [some (xR (some (12, 0))), some (xI a1), some (xI a2), some (xI a3), some (xI a4), some (xI a5), none, none] [])) ∧ ((¬ x10 = 0 → AMet G l M_Jx4a65c_size_8abf5 d 0 0 [xR (some (0, 0))] σ9 (retI (fun x12 σ11 => (St σ11 ∧ (((x12 < 40 → AMet G l M_Jx4a65c_size_8abf5 d 0 0 [xR (some (0, 0))] σ11 (retI (fun x14 σ13 => (St σ13 ∧ ((∃ kk15 nn16 : Nat, (kk = kk15 + 1 ∧ nn = nn16 + 12 ∧ (AMet G l M_X5_init d 0 0 [xR (some (6, (cnt σ13 6))), xI x14, xI a1, xI a2, xI a3, xI a4, xI a5] (nO σ13 6) (retV (fun σ17 => (∃ mc21 ms22 kk19 nn20 : Nat, (kk15 = kk19 + mc21 ∧ nn16 = nn20 + ms22 ∧ (AMet G l M_Jx4a65c_add_9ea2d d mc21 ms22 [xR (some (0, 0)), xR (some (6, (cnt σ13 6)))] σ17 (retI (fun x23 σ18 => post (some (xI x14)) σ18)))))))))))))))) ∧ ((¬ x12 < 40 → post (some (xI (-1))) σ11))))))))))))))))))))))))))))))))) : AW G l M_X11_person (d + 1) post σ kk nn 0 [some (xR (some (12, 0))), some (xI a1), some (xI a2), some (xI a3), some (xI a4), some (xI a5), none, none] [] := by
  refine aw_iload_n (i := 1) d_X11_person_0 rfl rfl ?_
  refine aw_iconst (x := 0) d_X11_person_1 (by decide) ?_
  refine aw_bipush (x := 99) d_X11_person_2 (by decide) ?_
  refine aw_callS0 (as := [xI a1, xI 0, xI 99]) mw_X11_within ml_RX11_71 rfl d_X11_person_4 rfl (Nat.le_of_ble_eq_true rfl) (AMet.mono h (aw_toI (fun x2 σ1 h => ?_)))
  refine aw_if_eq (tgt := 57) d_X11_person_7 (by decide) (fun c => ?_) (fun c => ?_)
  · have h := h.1 c
    exact h
  · have h := h.2 c
    refine aw_iload_n (i := 2) d_X11_person_10 rfl rfl ?_
    refine aw_bipush (x := 50) d_X11_person_11 (by decide) ?_
    refine aw_sipush (x := 230) d_X11_person_13 (by decide) ?_
    refine aw_callS0 (as := [xI a2, xI 50, xI 230]) mw_X11_within ml_RX11_71 rfl d_X11_person_16 rfl (Nat.le_of_ble_eq_true rfl) (AMet.mono h (aw_toI (fun x4 σ3 h => ?_)))
    refine aw_if_eq (tgt := 57) d_X11_person_19 (by decide) (fun c => ?_) (fun c => ?_)
    · have h := h.1 c
      exact h
    · have h := h.2 c
      refine aw_iload_n (i := 3) d_X11_person_22 rfl rfl ?_
      refine aw_iconst (x := 0) d_X11_person_23 (by decide) ?_
      refine aw_ldcI (x := 65535) d_X11_person_24 ct_RX11_75 ?_
      refine aw_callS0 (as := [xI a3, xI 0, xI 65535]) mw_X11_within ml_RX11_71 rfl d_X11_person_26 rfl (Nat.le_of_ble_eq_true rfl) (AMet.mono h (aw_toI (fun x6 σ5 h => ?_)))
      refine aw_if_eq (tgt := 57) d_X11_person_29 (by decide) (fun c => ?_) (fun c => ?_)
      · have h := h.1 c
        exact h
      · have h := h.2 c
        refine aw_iload (i := 4) d_X11_person_32 rfl ?_
        refine aw_iconst (x := 0) d_X11_person_34 (by decide) ?_
        refine aw_iconst (x := 3) d_X11_person_35 (by decide) ?_
        refine aw_callS0 (as := [xI a4, xI 0, xI 3]) mw_X11_within ml_RX11_71 rfl d_X11_person_36 rfl (Nat.le_of_ble_eq_true rfl) (AMet.mono h (aw_toI (fun x8 σ7 h => ?_)))
        refine aw_if_eq (tgt := 57) d_X11_person_39 (by decide) (fun c => ?_) (fun c => ?_)
        · have h := h.1 c
          exact h
        · have h := h.2 c
          refine aw_iload (i := 5) d_X11_person_42 rfl ?_
          refine aw_iconst (x := 1) d_X11_person_44 (by decide) ?_
          refine aw_bipush (x := 30) d_X11_person_45 (by decide) ?_
          refine aw_callS0 (as := [xI a5, xI 1, xI 30]) mw_X11_within ml_RX11_71 rfl d_X11_person_47 rfl (Nat.le_of_ble_eq_true rfl) (AMet.mono h (aw_toI (fun x10 σ9 h => ?_)))
          obtain ⟨hS9, h⟩ := h
          refine aw_if_eq (tgt := 57) d_X11_person_50 (by decide) (fun c => ?_) (fun c => ?_)
          · have h := h.1 c
            exact h
          · have h := h.2 c
            refine aw_iconst (x := 1) d_X11_person_53 (by decide) ?_
            refine aw_goto (tgt := 58) d_X11_person_54 (by decide) ?_
            refine aw_istore (i := 6) d_X11_person_58 (by decide) ?_
            refine aw_iload (i := 6) d_X11_person_60 rfl ?_
            refine aw_if_eq (tgt := 77) d_X11_person_62 (by decide) (fun c => absurd c (by decide)) (fun _ => ?_)
            refine aw_aload_n (i := 0) d_X11_person_65 rfl rfl ?_
            refine aw_getRv fl_RX11_20 rfl (r := some (0, 0)) (St.get hS9 12 0 0 0 0 (by decide)) d_X11_person_66 ?_
            refine aw_callV0 (as := []) mw_Jx4a65c_size_8abf5 (by decide +kernel) ml_RX11_76 rfl d_X11_person_69 rfl (Nat.le_of_ble_eq_true rfl) (AMet.mono h (aw_toI (fun x12 σ11 h => ?_)))
            obtain ⟨hS11, h⟩ := h
            refine aw_bipush (x := 40) d_X11_person_72 (by decide) ?_
            refine aw_icmp_lt (tgt := 79) d_X11_person_74 (by decide) (fun c => ?_) (fun c => ?_)
            · have h := h.1 c
              refine aw_aload_n (i := 0) d_X11_person_79 rfl rfl ?_
              refine aw_getRv fl_RX11_20 rfl (r := some (0, 0)) (St.get hS11 12 0 0 0 0 (by decide)) d_X11_person_80 ?_
              refine aw_callV0 (as := []) mw_Jx4a65c_size_8abf5 (by decide +kernel) ml_RX11_76 rfl d_X11_person_83 rfl (Nat.le_of_ble_eq_true rfl) (AMet.mono h (aw_toI (fun x14 σ13 h => ?_)))
              obtain ⟨hS13, h⟩ := h
              refine aw_istore (i := 7) d_X11_person_86 (by decide) ?_
              refine aw_aload_n (i := 0) d_X11_person_88 rfl rfl ?_
              refine aw_getRv fl_RX11_20 rfl (r := some (0, 0)) (St.get hS13 12 0 0 0 0 (by decide)) d_X11_person_89 ?_
              obtain ⟨kk15, nn16, ek, en, h⟩ := h
              rw [ek, en]
              refine aw_new (c := 6) (n := 12) (r := (RX5, TX5, 12)) rfl rfl nw_RX11_80 d_X11_person_92 ?_
              refine aw_dupR d_X11_person_95 ?_
              refine aw_iload (i := 7) d_X11_person_96 rfl ?_
              refine aw_iload_n (i := 1) d_X11_person_98 rfl rfl ?_
              refine aw_iload_n (i := 2) d_X11_person_99 rfl rfl ?_
              refine aw_iload_n (i := 3) d_X11_person_100 rfl rfl ?_
              refine aw_iload (i := 4) d_X11_person_101 rfl ?_
              refine aw_iload (i := 5) d_X11_person_103 rfl ?_
              refine aw_callI0 (as := [xI x14, xI a1, xI a2, xI a3, xI a4, xI a5]) mw_X5_init rfl rfl ml_RX11_82 rfl d_X11_person_105 rfl (Nat.le_of_ble_eq_true rfl) (AMet.mono h (aw_toV (fun σ17 h => ?_)))
              obtain ⟨mc21, ms22, kk19, nn20, ek, en, h⟩ := h
              rw [ek, en]
              refine aw_callV (as := [xR (some (6, (cnt σ13 6)))]) mw_Jx4a65c_add_9ea2d (by decide +kernel) ml_RX11_85 rfl d_X11_person_108 rfl (Nat.le_of_ble_eq_true rfl) (AMet.mono h (aw_toI (fun x23 σ18 h => ?_)))
              refine aw_popI d_X11_person_111 ?_
              refine aw_iload (i := 7) d_X11_person_112 rfl ?_
              exact aw_ret d_X11_person_114 rfl rfl h
            · have h := h.2 c
              refine aw_iconst (x := -1) d_X11_person_77 (by decide) ?_
              exact aw_ret d_X11_person_78 rfl rfl h
set_option maxRecDepth 20000 in
theorem vc_X11_person_57 {G : GG} {l : Launch} {d : Nat} {post : Option AVal → AS → Prop} {σ : AS} {kk nn : Nat} {v1 : Int32} {v2 : Int32} {v3 : Int32} {v4 : Int32} {v5 : Int32} (h : post (some (xI (-1))) σ) : AW G l M_X11_person (d + 1) post σ kk nn 57 [some (xR (some (12, 0))), some (xI v1), some (xI v2), some (xI v3), some (xI v4), some (xI v5), none, none] [] := by
  refine aw_iconst (x := 0) d_X11_person_57 (by decide) ?_
  refine aw_istore (i := 6) d_X11_person_58 (by decide) ?_
  refine aw_iload (i := 6) d_X11_person_60 rfl ?_
  refine aw_if_eq (tgt := 77) d_X11_person_62 (by decide) (fun _ => ?_) (fun c => absurd c (by decide))
  refine aw_iconst (x := -1) d_X11_person_77 (by decide) ?_
  exact aw_ret d_X11_person_78 rfl rfl h
set_option maxRecDepth 20000 in
theorem vc_X11_away {G : GG} {l : Launch} {d : Nat} {post : Option AVal → AS → Prop} {σ : AS} {kk nn : Nat} {a1 : Int32} {a2 : Int32} (h : AMet G l M_X11_find d 0 0 [xR (some (12, 0)), xI a1] σ (retR (fun r2 σ1 => (((r2 = none → post (some (xI 0)) σ1)) ∧ ((∀ n : Nm, (r2 = some n → (∃ j3 : Nat, (n = (6, j3) ∧ ((((gR σ1 6 11 j3) = none → (narrow .boolean (.int a2) = .int a2 ∧ fits .boolean (.int a2) = true ∧ post (some (xI 1)) (sI σ1 6 6 j3 a2)))) ∧ ((∀ n : Nm, ((gR σ1 6 11 j3) = some n → (∃ j4 : Nat, (n = (2, j4) ∧ post (some (xI 0)) σ1))))))))))))))) : AW G l M_X11_away (d + 1) post σ kk nn 0 [some (xR (some (12, 0))), some (xI a1), some (xI a2), none] [] := by
  refine aw_aload_n (i := 0) d_X11_away_0 rfl rfl ?_
  refine aw_iload_n (i := 1) d_X11_away_1 rfl rfl ?_
  refine aw_callV0 (as := [xI a1]) mw_X11_find (by decide +kernel) ml_RX11_89 rfl d_X11_away_2 rfl (Nat.le_of_ble_eq_true rfl) (AMet.mono h (aw_toR (fun r2 σ1 h => ?_)))
  refine aw_astore_n (i := 3) d_X11_away_5 rfl (by decide) ?_
  refine aw_aload_n (i := 3) d_X11_away_6 rfl rfl ?_
  refine aw_ifnull (tgt := 17) d_X11_away_7 (by decide) (fun c => ?_) (fun n c => ?_)
  · have h := h.1 c
    try rw [c]
    refine aw_iconst (x := 0) d_X11_away_17 (by decide) ?_
    exact aw_ret d_X11_away_18 rfl (by decide) h
  · obtain ⟨j3, e9, h⟩ := h.2 n c
    subst e9
    try rw [c]
    refine aw_aload_n (i := 3) d_X11_away_10 rfl rfl ?_
    refine aw_getR fl_RX11_93 rfl d_X11_away_11 ?_
    refine aw_ifnull (tgt := 19) d_X11_away_14 (by decide) (fun c => ?_) (fun n c => ?_)
    · have h := h.1 c
      try rw [c]
      refine aw_aload_n (i := 3) d_X11_away_19 rfl rfl ?_
      refine aw_iload_n (i := 2) d_X11_away_20 rfl rfl ?_
      obtain ⟨hz1, hz2, h⟩ := h
      refine aw_putI fl_RX11_97 (by decide) (fin_no (r := (RX5, TX5, 12)) rfl rfl) d_X11_away_21 rfl ⟨hz1, hz2⟩ ?_
      refine aw_iconst (x := 1) d_X11_away_24 (by decide) ?_
      exact aw_ret d_X11_away_25 rfl (by decide) h
    · obtain ⟨j4, e9, h⟩ := h.2 n c
      subst e9
      try rw [c]
      refine aw_iconst (x := 0) d_X11_away_17 (by decide) ?_
      exact aw_ret d_X11_away_18 rfl (by decide) h
set_option maxRecDepth 20000 in
theorem vc_X11_feed {G : GG} {l : Launch} {d : Nat} {post : Option AVal → AS → Prop} {σ : AS} {kk nn : Nat} {a1 : Int32} {a2 : Int32} {a3 : Int32} {a4 : Int32} {a5 : Int32} (hS : St σ) (h : (((((gI σ 8 1 0) + 20) ≤ 1000 → AMet G l M_X11_addBytes d 0 0 [xR (some (12, 0)), xI a1] σ (retV (fun σ1 => AMet G l M_X11_addBytes d 0 0 [xR (some (12, 0)), xI a2] σ1 (retV (fun σ2 => AMet G l M_X11_addBytes d 0 0 [xR (some (12, 0)), xI a3] σ2 (retV (fun σ3 => AMet G l M_X11_addBytes d 0 0 [xR (some (12, 0)), xI a4] σ3 (retV (fun σ4 => AMet G l M_X11_addBytes d 0 0 [xR (some (12, 0)), xI a5] σ4 (retV (fun σ5 => (St σ5 ∧ post (some (xI (gI σ5 8 1 0))) σ5))))))))))))) ∧ ((¬ ((gI σ 8 1 0) + 20) ≤ 1000 → post (some (xI (-1))) σ)))) : AW G l M_X11_feed (d + 1) post σ kk nn 0 [some (xR (some (12, 0))), some (xI a1), some (xI a2), some (xI a3), some (xI a4), some (xI a5)] [] := by
  refine aw_aload_n (i := 0) d_X11_feed_0 rfl rfl ?_
  refine aw_getRv fl_RX11_39 rfl (r := some (8, 0)) (St.get hS 12 1 0 8 0 (by decide)) d_X11_feed_1 ?_
  refine aw_getI fl_RX11_101 rfl d_X11_feed_4 ?_
  refine aw_bipush (x := 20) d_X11_feed_7 (by decide) ?_
  refine aw_iadd d_X11_feed_9 ?_
  refine aw_sipush (x := 1000) d_X11_feed_10 (by decide) ?_
  refine aw_icmp_le (tgt := 18) d_X11_feed_13 (by decide) (fun c => ?_) (fun c => ?_)
  · have h := h.1 c
    refine aw_aload_n (i := 0) d_X11_feed_18 rfl rfl ?_
    refine aw_iload_n (i := 1) d_X11_feed_19 rfl rfl ?_
    refine aw_callV0 (as := [xI a1]) mw_X11_addBytes (by decide +kernel) ml_RX11_104 rfl d_X11_feed_20 rfl (Nat.le_of_ble_eq_true rfl) (AMet.mono h (aw_toV (fun σ1 h => ?_)))
    refine aw_aload_n (i := 0) d_X11_feed_23 rfl rfl ?_
    refine aw_iload_n (i := 2) d_X11_feed_24 rfl rfl ?_
    refine aw_callV0 (as := [xI a2]) mw_X11_addBytes (by decide +kernel) ml_RX11_104 rfl d_X11_feed_25 rfl (Nat.le_of_ble_eq_true rfl) (AMet.mono h (aw_toV (fun σ2 h => ?_)))
    refine aw_aload_n (i := 0) d_X11_feed_28 rfl rfl ?_
    refine aw_iload_n (i := 3) d_X11_feed_29 rfl rfl ?_
    refine aw_callV0 (as := [xI a3]) mw_X11_addBytes (by decide +kernel) ml_RX11_104 rfl d_X11_feed_30 rfl (Nat.le_of_ble_eq_true rfl) (AMet.mono h (aw_toV (fun σ3 h => ?_)))
    refine aw_aload_n (i := 0) d_X11_feed_33 rfl rfl ?_
    refine aw_iload (i := 4) d_X11_feed_34 rfl ?_
    refine aw_callV0 (as := [xI a4]) mw_X11_addBytes (by decide +kernel) ml_RX11_104 rfl d_X11_feed_36 rfl (Nat.le_of_ble_eq_true rfl) (AMet.mono h (aw_toV (fun σ4 h => ?_)))
    refine aw_aload_n (i := 0) d_X11_feed_39 rfl rfl ?_
    refine aw_iload (i := 5) d_X11_feed_40 rfl ?_
    refine aw_callV0 (as := [xI a5]) mw_X11_addBytes (by decide +kernel) ml_RX11_104 rfl d_X11_feed_42 rfl (Nat.le_of_ble_eq_true rfl) (AMet.mono h (aw_toV (fun σ5 h => ?_)))
    obtain ⟨hS5, h⟩ := h
    refine aw_aload_n (i := 0) d_X11_feed_45 rfl rfl ?_
    refine aw_getRv fl_RX11_39 rfl (r := some (8, 0)) (St.get hS5 12 1 0 8 0 (by decide)) d_X11_feed_46 ?_
    refine aw_getI fl_RX11_101 rfl d_X11_feed_49 ?_
    exact aw_ret d_X11_feed_52 rfl rfl h
  · have h := h.2 c
    refine aw_iconst (x := -1) d_X11_feed_16 (by decide) ?_
    exact aw_ret d_X11_feed_17 rfl rfl h
set_option maxRecDepth 20000 in
theorem vc_X11_end {G : GG} {l : Launch} {d : Nat} {post : Option AVal → AS → Prop} {σ : AS} {kk nn : Nat} {a1 : Int32} (hS : St σ) (h : AMet G l M_X11_within d 0 0 [xI a1, xI 0, xI (gI σ 8 1 0)] σ (retI (fun x2 σ1 => (St σ1 ∧ (((¬ x2 = 0 → post (some (xI a1)) (sI σ1 8 1 0 a1))) ∧ ((x2 = 0 → post (some (xI (-1))) σ1))))))) : AW G l M_X11_end (d + 1) post σ kk nn 0 [some (xR (some (12, 0))), some (xI a1)] [] := by
  refine aw_iload_n (i := 1) d_X11_end_0 rfl rfl ?_
  refine aw_iconst (x := 0) d_X11_end_1 (by decide) ?_
  refine aw_aload_n (i := 0) d_X11_end_2 rfl rfl ?_
  refine aw_getRv fl_RX11_39 rfl (r := some (8, 0)) (St.get hS 12 1 0 8 0 (by decide)) d_X11_end_3 ?_
  refine aw_getI fl_RX11_101 rfl d_X11_end_6 ?_
  refine aw_callS0 (as := [xI a1, xI 0, xI (gI σ 8 1 0)]) mw_X11_within ml_RX11_71 rfl d_X11_end_9 rfl (Nat.le_of_ble_eq_true rfl) (AMet.mono h (aw_toI (fun x2 σ1 h => ?_)))
  obtain ⟨hS1, h⟩ := h
  refine aw_if_ne (tgt := 17) d_X11_end_12 (by decide) (fun c => ?_) (fun c => ?_)
  · have h := h.1 c
    refine aw_aload_n (i := 0) d_X11_end_17 rfl rfl ?_
    refine aw_getRv fl_RX11_39 rfl (r := some (8, 0)) (St.get hS1 12 1 0 8 0 (by decide)) d_X11_end_18 ?_
    refine aw_iload_n (i := 1) d_X11_end_21 rfl rfl ?_
    refine aw_putI fl_RX11_101 (by decide) (fin_no (r := (RX7, TX7, 2)) rfl rfl) d_X11_end_22 rfl ⟨rfl, rfl⟩ ?_
    refine aw_iload_n (i := 1) d_X11_end_25 rfl rfl ?_
    exact aw_ret d_X11_end_26 rfl rfl h
  · have h := h.2 c
    refine aw_iconst (x := -1) d_X11_end_15 (by decide) ?_
    exact aw_ret d_X11_end_16 rfl rfl h
set_option maxRecDepth 20000 in
theorem vc_X11_asks {G : GG} {l : Launch} {d : Nat} {post : Option AVal → AS → Prop} {σ : AS} {kk nn : Nat}  (hS : St σ) (h : (∃ mc4 ms5 kk2 nn3 : Nat, (kk = kk2 + mc4 ∧ nn = nn3 + ms5 ∧ (AMet G l M_X2_read d mc4 ms5 [xR (some (3, 0))] σ (retR (fun r6 σ1 => (St σ1 ∧ (((r6 = none → post (some (xI ((-2) - (gI σ1 10 0 0)))) (sI σ1 8 1 0 0))) ∧ ((∀ n : Nm, (r6 = some n → (∃ j7 : Nat, (n = (0, j7) ∧ (AMet G l M_X6_startWith d 0 0 [xR (some (7, 0)), xR (some (0, j7))] (sI σ1 8 1 0 0) (retV (fun σ8 => AMet G l M_Jx4a65c_size_8abf5 d 0 0 [xR (some (0, j7))] σ8 (retI (fun x10 σ9 => post (some (xI x10)) σ9)))))))))))))))))) : AW G l M_X11_asks (d + 1) post σ kk nn 0 [some (xR (some (12, 0))), none] [] := by
  refine aw_aload_n (i := 0) d_X11_asks_0 rfl rfl ?_
  refine aw_getRv fl_RX11_24 rfl (r := some (3, 0)) (St.get hS 12 3 0 3 0 (by decide)) d_X11_asks_1 ?_
  obtain ⟨mc4, ms5, kk2, nn3, ek, en, h⟩ := h
  rw [ek, en]
  refine aw_callV (as := []) mw_X2_read (by decide +kernel) ml_RX11_107 rfl d_X11_asks_4 rfl (Nat.le_of_ble_eq_true rfl) (AMet.mono h (aw_toR (fun r6 σ1 h => ?_)))
  obtain ⟨hS1, h⟩ := h
  refine aw_astore_n (i := 1) d_X11_asks_7 rfl (by decide) ?_
  refine aw_aload_n (i := 0) d_X11_asks_8 rfl rfl ?_
  refine aw_getRv fl_RX11_39 rfl (r := some (8, 0)) (St.get hS1 12 1 0 8 0 (by decide)) d_X11_asks_9 ?_
  refine aw_iconst (x := 0) d_X11_asks_12 (by decide) ?_
  refine aw_putI fl_RX11_101 (by decide) (fin_no (r := (RX7, TX7, 2)) rfl rfl) d_X11_asks_13 rfl ⟨rfl, rfl⟩ ?_
  refine aw_aload_n (i := 1) d_X11_asks_16 rfl rfl ?_
  refine aw_ifnonnull (tgt := 31) d_X11_asks_17 (by decide) (fun n c => ?_) (fun c => ?_)
  · obtain ⟨j7, e9, h⟩ := h.2 n c
    subst e9
    try rw [c]
    refine aw_aload_n (i := 0) d_X11_asks_31 rfl rfl ?_
    refine aw_getRv fl_RX11_10 rfl (r := some (7, 0)) (St.get (St.sI hS1) 12 6 0 7 0 (by decide)) d_X11_asks_32 ?_
    refine aw_aload_n (i := 1) d_X11_asks_35 rfl rfl ?_
    refine aw_callV0 (as := [xR (some (0, j7))]) mw_X6_startWith (by decide +kernel) ml_RX11_114 rfl d_X11_asks_36 rfl (Nat.le_of_ble_eq_true rfl) (AMet.mono h (aw_toV (fun σ8 h => ?_)))
    refine aw_aload_n (i := 1) d_X11_asks_39 rfl rfl ?_
    refine aw_callV0 (as := []) mw_Jx4a65c_size_8abf5 (by decide +kernel) ml_RX11_76 rfl d_X11_asks_40 rfl (Nat.le_of_ble_eq_true rfl) (AMet.mono h (aw_toI (fun x10 σ9 h => ?_)))
    exact aw_ret d_X11_asks_43 rfl rfl h
  · have h := h.1 c
    try rw [c]
    refine aw_bipush (x := -2) d_X11_asks_20 (by decide) ?_
    refine aw_aload_n (i := 0) d_X11_asks_22 rfl rfl ?_
    refine aw_getRv fl_RX11_32 rfl (r := some (10, 0)) (St.get (St.sI hS1) 12 2 0 10 0 (by decide)) d_X11_asks_23 ?_
    refine aw_getIv fl_RX11_111 rfl (x := gI σ1 10 0 0) rfl d_X11_asks_26 ?_
    refine aw_isub d_X11_asks_29 ?_
    exact aw_ret d_X11_asks_30 rfl rfl h
set_option maxRecDepth 20000 in
theorem vc_X11_agree {G : GG} {l : Launch} {d : Nat} {post : Option AVal → AS → Prop} {σ : AS} {kk nn : Nat}  (hS : St σ) (h : AMet G l M_Jx4a65c_size_8abf5 d 0 0 [xR (some (0, 1))] σ (retI (fun x2 σ1 => (St σ1 ∧ (((x2 < 30 → (∃ kk3 nn4 : Nat, (kk = kk3 + 1 ∧ nn = nn4 + 2 ∧ (AMet G l M_Jx4a65c_size_8abf5 d 0 0 [xR (some (0, 1))] (nO σ1 1) (retI (fun x6 σ5 => (∃ mc10 ms11 kk8 nn9 : Nat, (kk3 = kk8 + mc10 ∧ nn4 = nn9 + ms11 ∧ (AMet G l M_X0_init d mc10 ms11 [xR (some (1, (cnt σ1 1))), xI x6] σ5 (retV (fun σ7 => (St σ7 ∧ ((∃ mc15 ms16 kk13 nn14 : Nat, (kk8 = kk13 + mc15 ∧ nn9 = nn14 + ms16 ∧ (AMet G l M_X0_readFrom d mc15 ms16 [xR (some (1, (cnt σ1 1))), xR (some (10, 0))] σ7 (retI (fun x17 σ12 => (St σ12 ∧ (((¬ x17 = 0 → (∃ mc21 ms22 kk19 nn20 : Nat, (kk13 = kk19 + mc21 ∧ nn14 = nn20 + ms22 ∧ (AMet G l M_Jx4a65c_add_9ea2d d mc21 ms22 [xR (some (0, 1)), xR (some (1, (cnt σ1 1)))] (sI σ12 8 1 0 0) (retI (fun x23 σ18 => post (some (xI (gI σ18 1 0 (cnt σ1 1)))) σ18))))))) ∧ ((x17 = 0 → post (some (xI ((-2) - (gI σ12 10 0 0)))) (sI σ12 8 1 0 0)))))))))))))))))))))))) ∧ ((¬ x2 < 30 → post (some (xI (-2))) σ1))))))) : AW G l M_X11_agree (d + 1) post σ kk nn 0 [some (xR (some (12, 0))), none, none] [] := by
  refine aw_aload_n (i := 0) d_X11_agree_0 rfl rfl ?_
  refine aw_getRv fl_RX11_43 rfl (r := some (0, 1)) (St.get hS 12 4 0 0 1 (by decide)) d_X11_agree_1 ?_
  refine aw_callV0 (as := []) mw_Jx4a65c_size_8abf5 (by decide +kernel) ml_RX11_76 rfl d_X11_agree_4 rfl (Nat.le_of_ble_eq_true rfl) (AMet.mono h (aw_toI (fun x2 σ1 h => ?_)))
  obtain ⟨hS1, h⟩ := h
  refine aw_bipush (x := 30) d_X11_agree_7 (by decide) ?_
  refine aw_icmp_lt (tgt := 15) d_X11_agree_9 (by decide) (fun c => ?_) (fun c => ?_)
  · have h := h.1 c
    obtain ⟨kk3, nn4, ek, en, h⟩ := h
    rw [ek, en]
    refine aw_new (c := 1) (n := 2) (r := (RX0, TX0, 2)) rfl rfl nw_RX11_118 d_X11_agree_15 ?_
    refine aw_dupR d_X11_agree_18 ?_
    refine aw_aload_n (i := 0) d_X11_agree_19 rfl rfl ?_
    refine aw_getRv fl_RX11_43 rfl (r := some (0, 1)) (St.get (St.nA hS1) 12 4 0 0 1 (by decide)) d_X11_agree_20 ?_
    refine aw_callV0 (as := []) mw_Jx4a65c_size_8abf5 (by decide +kernel) ml_RX11_76 rfl d_X11_agree_23 rfl (Nat.le_of_ble_eq_true rfl) (AMet.mono h (aw_toI (fun x6 σ5 h => ?_)))
    obtain ⟨mc10, ms11, kk8, nn9, ek, en, h⟩ := h
    rw [ek, en]
    refine aw_callI (as := [xI x6]) mw_X0_init rfl rfl ml_RX11_120 rfl d_X11_agree_26 rfl (Nat.le_of_ble_eq_true rfl) (AMet.mono h (aw_toV (fun σ7 h => ?_)))
    obtain ⟨hS7, h⟩ := h
    refine aw_astore_n (i := 1) d_X11_agree_29 rfl (by decide) ?_
    refine aw_aload_n (i := 1) d_X11_agree_30 rfl rfl ?_
    refine aw_aload_n (i := 0) d_X11_agree_31 rfl rfl ?_
    refine aw_getRv fl_RX11_32 rfl (r := some (10, 0)) (St.get hS7 12 2 0 10 0 (by decide)) d_X11_agree_32 ?_
    obtain ⟨mc15, ms16, kk13, nn14, ek, en, h⟩ := h
    rw [ek, en]
    refine aw_callV (as := [xR (some (10, 0))]) mw_X0_readFrom (by decide +kernel) ml_RX11_121 rfl d_X11_agree_35 rfl (Nat.le_of_ble_eq_true rfl) (AMet.mono h (aw_toI (fun x17 σ12 h => ?_)))
    obtain ⟨hS12, h⟩ := h
    refine aw_istore_n (i := 2) d_X11_agree_38 rfl (by decide) ?_
    refine aw_aload_n (i := 0) d_X11_agree_39 rfl rfl ?_
    refine aw_getRv fl_RX11_39 rfl (r := some (8, 0)) (St.get hS12 12 1 0 8 0 (by decide)) d_X11_agree_40 ?_
    refine aw_iconst (x := 0) d_X11_agree_43 (by decide) ?_
    refine aw_putI fl_RX11_101 (by decide) (fin_no (r := (RX7, TX7, 2)) rfl rfl) d_X11_agree_44 rfl ⟨rfl, rfl⟩ ?_
    refine aw_iload_n (i := 2) d_X11_agree_47 rfl rfl ?_
    refine aw_if_ne (tgt := 62) d_X11_agree_48 (by decide) (fun c => ?_) (fun c => ?_)
    · have h := h.1 c
      refine aw_aload_n (i := 0) d_X11_agree_62 rfl rfl ?_
      refine aw_getRv fl_RX11_43 rfl (r := some (0, 1)) (St.get (St.sI hS12) 12 4 0 0 1 (by decide)) d_X11_agree_63 ?_
      refine aw_aload_n (i := 1) d_X11_agree_66 rfl rfl ?_
      obtain ⟨mc21, ms22, kk19, nn20, ek, en, h⟩ := h
      rw [ek, en]
      refine aw_callV (as := [xR (some (1, (cnt σ1 1)))]) mw_Jx4a65c_add_9ea2d (by decide +kernel) ml_RX11_85 rfl d_X11_agree_67 rfl (Nat.le_of_ble_eq_true rfl) (AMet.mono h (aw_toI (fun x23 σ18 h => ?_)))
      refine aw_popI d_X11_agree_70 ?_
      refine aw_aload_n (i := 1) d_X11_agree_71 rfl rfl ?_
      refine aw_getI fl_RX11_125 rfl d_X11_agree_72 ?_
      exact aw_ret d_X11_agree_75 rfl rfl h
    · have h := h.2 c
      refine aw_bipush (x := -2) d_X11_agree_51 (by decide) ?_
      refine aw_aload_n (i := 0) d_X11_agree_53 rfl rfl ?_
      refine aw_getRv fl_RX11_32 rfl (r := some (10, 0)) (St.get (St.sI hS12) 12 2 0 10 0 (by decide)) d_X11_agree_54 ?_
      refine aw_getIv fl_RX11_111 rfl (x := gI σ12 10 0 0) rfl d_X11_agree_57 ?_
      refine aw_isub d_X11_agree_60 ?_
      exact aw_ret d_X11_agree_61 rfl rfl h
  · have h := h.2 c
    refine aw_bipush (x := -2) d_X11_agree_12 (by decide) ?_
    exact aw_ret d_X11_agree_14 rfl rfl h
set_option maxRecDepth 20000 in
theorem vc_X11_place {G : GG} {l : Launch} {d : Nat} {post : Option AVal → AS → Prop} {σ : AS} {kk nn : Nat}  (hS : St σ) (h : post (some (xI (gI σ 10 1 0))) σ) : AW G l M_X11_place d post σ kk nn 0 [some (xR (some (12, 0)))] [] := by
  refine aw_aload_n (i := 0) d_X11_place_0 rfl rfl ?_
  refine aw_getRv fl_RX11_32 rfl (r := some (10, 0)) (St.get hS 12 2 0 10 0 (by decide)) d_X11_place_1 ?_
  refine aw_getI fl_RX11_128 rfl d_X11_place_4 ?_
  exact aw_ret d_X11_place_7 rfl rfl h
set_option maxRecDepth 20000 in
theorem vc_X11_fits {G : GG} {l : Launch} {d : Nat} {post : Option AVal → AS → Prop} {σ : AS} {kk nn : Nat} {a1 : Int32} {a2 : Int32} {a3 : Int32} (h : AMet G l M_X11_find d 0 0 [xR (some (12, 0)), xI a1] σ (retR (fun r2 σ1 => (St σ1 ∧ (AMet G l M_X6_find d 0 0 [xR (some (7, 0)), xI a2] σ1 (retR (fun r4 σ3 => (((r2 = none → post (some (xI (-1))) σ3)) ∧ ((∀ n : Nm, (r2 = some n → (∃ j5 : Nat, (n = (6, j5) ∧ (((r4 = none → post (some (xI (-1))) σ3)) ∧ ((∀ n : Nm, (r4 = some n → (∃ j6 : Nat, (n = (2, j6) ∧ (AMet G l M_X11_within d 0 0 [xI a3, xI 0, xI 1] σ3 (retI (fun x8 σ7 => (((¬ x8 = 0 → (((¬ a3 = 0 → AMet G l M_X1_isOpenTo d 0 0 [xR (some (2, j6)), xR (some (6, j5)), xI (gI σ7 12 10 0)] σ7 (retI (fun x10 σ9 => (((x10 = 0 → post (some (xI 0)) σ9)) ∧ ((¬ x10 = 0 → post (some (xI 1)) σ9))))))) ∧ ((a3 = 0 → AMet G l M_X1_suits d 0 0 [xR (some (2, j6)), xR (some (6, j5))] σ7 (retI (fun x12 σ11 => (((x12 = 0 → post (some (xI 0)) σ11)) ∧ ((¬ x12 = 0 → post (some (xI 1)) σ11)))))))))) ∧ ((x8 = 0 → post (some (xI (-1))) σ7))))))))))))))))))))))))) : AW G l M_X11_fits (d + 1) post σ kk nn 0 [some (xR (some (12, 0))), some (xI a1), some (xI a2), some (xI a3), none, none, none] [] := by
  refine aw_aload_n (i := 0) d_X11_fits_0 rfl rfl ?_
  refine aw_iload_n (i := 1) d_X11_fits_1 rfl rfl ?_
  refine aw_callV0 (as := [xI a1]) mw_X11_find (by decide +kernel) ml_RX11_89 rfl d_X11_fits_2 rfl (Nat.le_of_ble_eq_true rfl) (AMet.mono h (aw_toR (fun r2 σ1 h => ?_)))
  obtain ⟨hS1, h⟩ := h
  refine aw_astore (i := 4) d_X11_fits_5 (by decide) ?_
  refine aw_aload_n (i := 0) d_X11_fits_7 rfl rfl ?_
  refine aw_getRv fl_RX11_10 rfl (r := some (7, 0)) (St.get hS1 12 6 0 7 0 (by decide)) d_X11_fits_8 ?_
  refine aw_iload_n (i := 2) d_X11_fits_11 rfl rfl ?_
  refine aw_callV0 (as := [xI a2]) mw_X6_find (by decide +kernel) ml_RX11_131 rfl d_X11_fits_12 rfl (Nat.le_of_ble_eq_true rfl) (AMet.mono h (aw_toR (fun r4 σ3 h => ?_)))
  refine aw_astore (i := 5) d_X11_fits_15 (by decide) ?_
  refine aw_aload (i := 4) d_X11_fits_17 rfl ?_
  refine aw_ifnull (tgt := 36) d_X11_fits_19 (by decide) (fun c => ?_) (fun n c => ?_)
  · have h := h.1 c
    try rw [c]
    refine aw_iconst (x := -1) d_X11_fits_36 (by decide) ?_
    exact aw_ret d_X11_fits_37 rfl rfl h
  · obtain ⟨j5, e9, h⟩ := h.2 n c
    subst e9
    try rw [c]
    refine aw_aload (i := 5) d_X11_fits_22 rfl ?_
    refine aw_ifnull (tgt := 36) d_X11_fits_24 (by decide) (fun c => ?_) (fun n c => ?_)
    · have h := h.1 c
      try rw [c]
      refine aw_iconst (x := -1) d_X11_fits_36 (by decide) ?_
      exact aw_ret d_X11_fits_37 rfl rfl h
    · obtain ⟨j6, e9, h⟩ := h.2 n c
      subst e9
      try rw [c]
      refine aw_iload_n (i := 3) d_X11_fits_27 rfl rfl ?_
      refine aw_iconst (x := 0) d_X11_fits_28 (by decide) ?_
      refine aw_iconst (x := 1) d_X11_fits_29 (by decide) ?_
      refine aw_callS0 (as := [xI a3, xI 0, xI 1]) mw_X11_within ml_RX11_71 rfl d_X11_fits_30 rfl (Nat.le_of_ble_eq_true rfl) (AMet.mono h (aw_toI (fun x8 σ7 h => ?_)))
      refine aw_if_ne (tgt := 38) d_X11_fits_33 (by decide) (fun c => ?_) (fun c => ?_)
      · have h := h.1 c
        refine aw_iload_n (i := 3) d_X11_fits_38 rfl rfl ?_
        refine aw_if_ne (tgt := 52) d_X11_fits_39 (by decide) (fun c => ?_) (fun c => ?_)
        · have h := h.1 c
          refine aw_aload (i := 5) d_X11_fits_52 rfl ?_
          refine aw_aload (i := 4) d_X11_fits_54 rfl ?_
          refine aw_aload_n (i := 0) d_X11_fits_56 rfl rfl ?_
          refine aw_getI fl_RX11_140 rfl d_X11_fits_57 ?_
          refine aw_callV0 (as := [xR (some (6, j5)), xI (gI σ7 12 10 0)]) mw_X1_isOpenTo (by decide +kernel) ml_RX11_143 rfl d_X11_fits_60 rfl (Nat.le_of_ble_eq_true rfl) (AMet.mono h (aw_toI (fun x10 σ9 h => ?_)))
          refine aw_istore (i := 6) d_X11_fits_63 (by decide) ?_
          refine aw_iload (i := 6) d_X11_fits_65 rfl ?_
          refine aw_if_eq (tgt := 74) d_X11_fits_67 (by decide) (fun c => ?_) (fun c => ?_)
          · have h := h.1 c
            refine aw_iconst (x := 0) d_X11_fits_74 (by decide) ?_
            exact aw_ret d_X11_fits_75 rfl rfl h
          · have h := h.2 c
            refine aw_iconst (x := 1) d_X11_fits_70 (by decide) ?_
            refine aw_goto (tgt := 75) d_X11_fits_71 (by decide) ?_
            exact aw_ret d_X11_fits_75 rfl rfl h
        · have h := h.2 c
          refine aw_aload (i := 5) d_X11_fits_42 rfl ?_
          refine aw_aload (i := 4) d_X11_fits_44 rfl ?_
          refine aw_callV0 (as := [xR (some (6, j5))]) mw_X1_suits (by decide +kernel) ml_RX11_134 rfl d_X11_fits_46 rfl (Nat.le_of_ble_eq_true rfl) (AMet.mono h (aw_toI (fun x12 σ11 h => ?_)))
          refine aw_goto (tgt := 63) d_X11_fits_49 (by decide) ?_
          refine aw_istore (i := 6) d_X11_fits_63 (by decide) ?_
          refine aw_iload (i := 6) d_X11_fits_65 rfl ?_
          refine aw_if_eq (tgt := 74) d_X11_fits_67 (by decide) (fun c => ?_) (fun c => ?_)
          · have h := h.1 c
            refine aw_iconst (x := 0) d_X11_fits_74 (by decide) ?_
            exact aw_ret d_X11_fits_75 rfl rfl h
          · have h := h.2 c
            refine aw_iconst (x := 1) d_X11_fits_70 (by decide) ?_
            refine aw_goto (tgt := 75) d_X11_fits_71 (by decide) ?_
            exact aw_ret d_X11_fits_75 rfl rfl h
      · have h := h.2 c
        refine aw_iconst (x := -1) d_X11_fits_36 (by decide) ?_
        exact aw_ret d_X11_fits_37 rfl rfl h
set_option maxRecDepth 20000 in
theorem vc_X11_lay {G : GG} {l : Launch} {d : Nat} {post : Option AVal → AS → Prop} {σ : AS} {kk nn : Nat}  (hS : St σ) (h : (∃ j1 : Nat, ((gR σ 7 0 0) = some (0, j1) ∧ (AMet G l M_Jx4a65c_isEmpty_aae02 d 0 0 [xR (some (0, j1))] σ (retI (fun x3 σ2 => (St σ2 ∧ (((x3 = 0 → AMet G l M_X6_layFor d 0 0 [xR (some (7, 0)), xI (gI σ2 12 10 0)] σ2 (retV (fun σ4 => (St σ4 ∧ (AMet G l M_X6_size d 0 0 [xR (some (7, 0))] σ4 (retI (fun x6 σ5 => post (some (xI x6)) σ5)))))))) ∧ ((¬ x3 = 0 → post (some (xI (-1))) σ2)))))))))) : AW G l M_X11_lay (d + 1) post σ kk nn 0 [some (xR (some (12, 0)))] [] := by
  refine aw_aload_n (i := 0) d_X11_lay_0 rfl rfl ?_
  refine aw_getRv fl_RX11_10 rfl (r := some (7, 0)) (St.get hS 12 6 0 7 0 (by decide)) d_X11_lay_1 ?_
  refine aw_getR fl_RX11_147 rfl d_X11_lay_4 ?_
  obtain ⟨j1, ej1, h⟩ := h
  rw [ej1]
  refine aw_callV0 (as := []) mw_Jx4a65c_isEmpty_aae02 (by decide +kernel) ml_RX11_150 rfl d_X11_lay_7 rfl (Nat.le_of_ble_eq_true rfl) (AMet.mono h (aw_toI (fun x3 σ2 h => ?_)))
  obtain ⟨hS2, h⟩ := h
  refine aw_if_eq (tgt := 15) d_X11_lay_10 (by decide) (fun c => ?_) (fun c => ?_)
  · have h := h.1 c
    refine aw_aload_n (i := 0) d_X11_lay_15 rfl rfl ?_
    refine aw_getRv fl_RX11_10 rfl (r := some (7, 0)) (St.get hS2 12 6 0 7 0 (by decide)) d_X11_lay_16 ?_
    refine aw_aload_n (i := 0) d_X11_lay_19 rfl rfl ?_
    refine aw_getI fl_RX11_140 rfl d_X11_lay_20 ?_
    refine aw_callV0 (as := [xI (gI σ2 12 10 0)]) mw_X6_layFor (by decide +kernel) ml_RX11_154 rfl d_X11_lay_23 rfl (Nat.le_of_ble_eq_true rfl) (AMet.mono h (aw_toV (fun σ4 h => ?_)))
    obtain ⟨hS4, h⟩ := h
    refine aw_aload_n (i := 0) d_X11_lay_26 rfl rfl ?_
    refine aw_getRv fl_RX11_10 rfl (r := some (7, 0)) (St.get hS4 12 6 0 7 0 (by decide)) d_X11_lay_27 ?_
    refine aw_callV0 (as := []) mw_X6_size (by decide +kernel) ml_RX11_157 rfl d_X11_lay_30 rfl (Nat.le_of_ble_eq_true rfl) (AMet.mono h (aw_toI (fun x6 σ5 h => ?_)))
    exact aw_ret d_X11_lay_33 rfl rfl h
  · have h := h.2 c
    refine aw_iconst (x := -1) d_X11_lay_13 (by decide) ?_
    exact aw_ret d_X11_lay_14 rfl rfl h
set_option maxRecDepth 20000 in
theorem vc_X11_called {G : GG} {l : Launch} {d : Nat} {post : Option AVal → AS → Prop} {σ : AS} {kk nn : Nat} {a1 : Int32} (h : AMet G l M_X11_find d 0 0 [xR (some (12, 0)), xI a1] σ (retR (fun r2 σ1 => (((r2 = none → post (some (xI (-1))) σ1)) ∧ ((∀ n : Nm, (r2 = some n → (∃ j3 : Nat, (n = (6, j3) ∧ ((((gR σ1 6 11 j3) = none → post (some (xI (-1))) σ1)) ∧ ((∀ n : Nm, ((gR σ1 6 11 j3) = some n → (∃ j4 : Nat, (n = (2, j4) ∧ ((∃ j5 : Nat, ((gR σ1 6 11 j3) = some (2, j5) ∧ post (some (xI (gI σ1 2 0 j5))) σ1)))))))))))))))))) : AW G l M_X11_called (d + 1) post σ kk nn 0 [some (xR (some (12, 0))), some (xI a1), none] [] := by
  refine aw_aload_n (i := 0) d_X11_called_0 rfl rfl ?_
  refine aw_iload_n (i := 1) d_X11_called_1 rfl rfl ?_
  refine aw_callV0 (as := [xI a1]) mw_X11_find (by decide +kernel) ml_RX11_89 rfl d_X11_called_2 rfl (Nat.le_of_ble_eq_true rfl) (AMet.mono h (aw_toR (fun r2 σ1 h => ?_)))
  refine aw_astore_n (i := 2) d_X11_called_5 rfl (by decide) ?_
  refine aw_aload_n (i := 2) d_X11_called_6 rfl rfl ?_
  refine aw_ifnull (tgt := 17) d_X11_called_7 (by decide) (fun c => ?_) (fun n c => ?_)
  · have h := h.1 c
    try rw [c]
    refine aw_iconst (x := -1) d_X11_called_17 (by decide) ?_
    refine aw_goto (tgt := 28) d_X11_called_18 (by decide) ?_
    exact aw_ret d_X11_called_28 rfl rfl h
  · obtain ⟨j3, e9, h⟩ := h.2 n c
    subst e9
    try rw [c]
    refine aw_aload_n (i := 2) d_X11_called_10 rfl rfl ?_
    refine aw_getR fl_RX11_93 rfl d_X11_called_11 ?_
    refine aw_ifnonnull (tgt := 21) d_X11_called_14 (by decide) (fun n c => ?_) (fun c => ?_)
    · obtain ⟨j4, e9, h⟩ := h.2 n c
      subst e9
      try rw [c]
      refine aw_aload_n (i := 2) d_X11_called_21 rfl rfl ?_
      refine aw_getR fl_RX11_93 rfl d_X11_called_22 ?_
      obtain ⟨j5, ej5, h⟩ := h
      rw [ej5]
      refine aw_getI fl_RX11_158 rfl d_X11_called_25 ?_
      exact aw_ret d_X11_called_28 rfl rfl h
    · have h := h.1 c
      try rw [c]
      refine aw_iconst (x := -1) d_X11_called_17 (by decide) ?_
      refine aw_goto (tgt := 28) d_X11_called_18 (by decide) ?_
      exact aw_ret d_X11_called_28 rfl rfl h
set_option maxRecDepth 20000 in
theorem vc_X11_no {G : GG} {l : Launch} {d : Nat} {post : Option AVal → AS → Prop} {σ : AS} {kk nn : Nat} {a1 : Int32} (h : AMet G l M_X11_find d 0 0 [xR (some (12, 0)), xI a1] σ (retR (fun r2 σ1 => (((r2 = none → post (some (xI (-1))) σ1)) ∧ ((∀ n : Nm, (r2 = some n → (∃ j3 : Nat, (n = (6, j3) ∧ ((((gR σ1 6 11 j3) = none → post (some (xI (-1))) σ1)) ∧ ((∀ n : Nm, ((gR σ1 6 11 j3) = some n → (∃ j4 : Nat, (n = (2, j4) ∧ (AMet G l M_X5_moveTo d 0 0 [xR (some (6, j3)), xR none] σ1 (retV (fun σ5 => (St σ5 ∧ (AMet G l M_X6_mend d 0 0 [xR (some (7, 0)), xR (gR σ1 6 11 j3), xI (gI σ5 12 10 0)] (sI σ5 6 6 j3 1) (retV (fun σ6 => (St σ6 ∧ post (some (xI (gI σ6 8 1 4))) σ6))))))))))))))))))))))) : AW G l M_X11_no (d + 1) post σ kk nn 0 [some (xR (some (12, 0))), some (xI a1), none, none] [] := by
  refine aw_aload_n (i := 0) d_X11_no_0 rfl rfl ?_
  refine aw_iload_n (i := 1) d_X11_no_1 rfl rfl ?_
  refine aw_callV0 (as := [xI a1]) mw_X11_find (by decide +kernel) ml_RX11_89 rfl d_X11_no_2 rfl (Nat.le_of_ble_eq_true rfl) (AMet.mono h (aw_toR (fun r2 σ1 h => ?_)))
  refine aw_astore_n (i := 2) d_X11_no_5 rfl (by decide) ?_
  refine aw_aload_n (i := 2) d_X11_no_6 rfl rfl ?_
  refine aw_ifnull (tgt := 17) d_X11_no_7 (by decide) (fun c => ?_) (fun n c => ?_)
  · have h := h.1 c
    try rw [c]
    refine aw_iconst (x := -1) d_X11_no_17 (by decide) ?_
    exact aw_ret d_X11_no_18 rfl rfl h
  · obtain ⟨j3, e9, h⟩ := h.2 n c
    subst e9
    try rw [c]
    refine aw_aload_n (i := 2) d_X11_no_10 rfl rfl ?_
    refine aw_getR fl_RX11_93 rfl d_X11_no_11 ?_
    refine aw_ifnonnull (tgt := 19) d_X11_no_14 (by decide) (fun n c => ?_) (fun c => ?_)
    · obtain ⟨j4, e9, h⟩ := h.2 n c
      subst e9
      try rw [c]
      refine aw_aload_n (i := 2) d_X11_no_19 rfl rfl ?_
      refine aw_getR fl_RX11_93 rfl d_X11_no_20 ?_
      refine aw_astore_n (i := 3) d_X11_no_23 rfl (by decide) ?_
      refine aw_aload_n (i := 2) d_X11_no_24 rfl rfl ?_
      refine aw_null d_X11_no_25 ?_
      refine aw_callV0 (as := [xR none]) mw_X5_moveTo (by decide +kernel) ml_RX11_159 rfl d_X11_no_26 rfl (Nat.le_of_ble_eq_true rfl) (AMet.mono h (aw_toV (fun σ5 h => ?_)))
      obtain ⟨hS5, h⟩ := h
      refine aw_aload_n (i := 2) d_X11_no_29 rfl rfl ?_
      refine aw_iconst (x := 1) d_X11_no_30 (by decide) ?_
      refine aw_putI fl_RX11_97 (by decide) (fin_no (r := (RX5, TX5, 12)) rfl rfl) d_X11_no_31 rfl (by decide) ?_
      refine aw_aload_n (i := 0) d_X11_no_34 rfl rfl ?_
      refine aw_getRv fl_RX11_10 rfl (r := some (7, 0)) (St.get (St.sI hS5) 12 6 0 7 0 (by decide)) d_X11_no_35 ?_
      refine aw_aload_n (i := 3) d_X11_no_38 rfl rfl ?_
      refine aw_aload_n (i := 0) d_X11_no_39 rfl rfl ?_
      refine aw_getIv fl_RX11_140 rfl (x := gI σ5 12 10 0) rfl d_X11_no_40 ?_
      refine aw_callV0 (as := [xR (gR σ1 6 11 j3), xI (gI σ5 12 10 0)]) mw_X6_mend (by decide +kernel) ml_RX11_163 rfl d_X11_no_43 rfl (Nat.le_of_ble_eq_true rfl) (AMet.mono h (aw_toV (fun σ6 h => ?_)))
      obtain ⟨hS6, h⟩ := h
      refine aw_aload_n (i := 0) d_X11_no_46 rfl rfl ?_
      refine aw_getRv fl_RX11_10 rfl (r := some (7, 0)) (St.get hS6 12 6 0 7 0 (by decide)) d_X11_no_47 ?_
      refine aw_getRv fl_RX11_167 rfl (r := some (8, 4)) (St.get hS6 7 1 0 8 4 (by decide)) d_X11_no_50 ?_
      refine aw_getI fl_RX11_101 rfl d_X11_no_53 ?_
      exact aw_ret d_X11_no_56 rfl rfl h
    · have h := h.1 c
      try rw [c]
      refine aw_iconst (x := -1) d_X11_no_17 (by decide) ?_
      exact aw_ret d_X11_no_18 rfl rfl h
set_option maxRecDepth 20000 in
theorem vc_X11_moved {G : GG} {l : Launch} {d : Nat} {post : Option AVal → AS → Prop} {σ : AS} {kk nn : Nat} {a1 : Int32} (hS : St σ) (h : AMet G l M_X7_at d 0 0 [xR (some (8, 4)), xI a1] σ (retI (fun x2 σ1 => post (some (xI x2)) σ1))) : AW G l M_X11_moved (d + 1) post σ kk nn 0 [some (xR (some (12, 0))), some (xI a1)] [] := by
  refine aw_aload_n (i := 0) d_X11_moved_0 rfl rfl ?_
  refine aw_getRv fl_RX11_10 rfl (r := some (7, 0)) (St.get hS 12 6 0 7 0 (by decide)) d_X11_moved_1 ?_
  refine aw_getRv fl_RX11_167 rfl (r := some (8, 4)) (St.get hS 7 1 0 8 4 (by decide)) d_X11_moved_4 ?_
  refine aw_iload_n (i := 1) d_X11_moved_7 rfl rfl ?_
  refine aw_callV0 (as := [xI a1]) mw_X7_at (by decide +kernel) ml_RX11_170 rfl d_X11_moved_8 rfl (Nat.le_of_ble_eq_true rfl) (AMet.mono h (aw_toI (fun x2 σ1 h => ?_)))
  exact aw_ret d_X11_moved_11 rfl rfl h
set_option maxRecDepth 20000 in
theorem vc_X11_step {G : GG} {l : Launch} {d : Nat} {post : Option AVal → AS → Prop} {σ : AS} {kk nn : Nat} {a1 : Int32} {a2 : Int32} (h : AMet G l M_X11_within d 0 0 [xI a1, xI 1, xI 5] σ (retI (fun x2 σ1 => (St σ1 ∧ (((x2 = 0 → post (some (xI (-1))) σ1)) ∧ ((¬ x2 = 0 → AMet G l M_X6_size d 0 0 [xR (some (7, 0))] σ1 (retI (fun x4 σ3 => (St σ3 ∧ (((x4 = 0 → post (some (xI (-1))) σ3)) ∧ ((¬ x4 = 0 → ((((gI σ3 12 10 0) < 60 → (∃ mc8 ms9 kk6 nn7 : Nat, (kk = kk6 + mc8 ∧ nn = nn7 + ms9 ∧ (AMet G l M_X3_comeAll d mc8 ms9 [xR (some (4, 0)), xR (some (0, 0)), xI a2, xI (gI σ3 12 10 0)] σ3 (retV (fun σ5 => (St σ5 ∧ (AMet G l M_X3_dressAll d 0 0 [xR (some (4, 0)), xI a1] σ5 (retV (fun σ10 => (∃ mc14 ms15 kk12 nn13 : Nat, (kk6 = kk12 + mc14 ∧ nn7 = nn13 + ms15 ∧ (AMet G l M_X11_sendAll d mc14 ms15 [xR (some (12, 0))] σ10 (retI (fun x16 σ11 => (St σ11 ∧ ((∃ kk17 nn18 : Nat, (kk12 = kk17 + 1 ∧ nn13 = nn18 + 3 ∧ (AMet G l M_Jx4a65c_init_da8c8 d 0 0 [xR (some (0, (cnt σ11 0)))] (nO σ11 0) (retV (fun σ19 => AMet G l M_X6_startWith d 0 0 [xR (some (7, 0)), xR (some (0, (cnt σ11 0)))] σ19 (retV (fun σ20 => post (some (xI x16)) (sI σ20 12 10 0 ((gI σ20 12 10 0) + 1))))))))))))))))))))))))))) ∧ ((¬ (gI σ3 12 10 0) < 60 → post (some (xI (-1))) σ3)))))))))))))))) : AW G l M_X11_step (d + 1) post σ kk nn 0 [some (xR (some (12, 0))), some (xI a1), some (xI a2), none] [] := by
  refine aw_iload_n (i := 1) d_X11_step_0 rfl rfl ?_
  refine aw_iconst (x := 1) d_X11_step_1 (by decide) ?_
  refine aw_iconst (x := 5) d_X11_step_2 (by decide) ?_
  refine aw_callS0 (as := [xI a1, xI 1, xI 5]) mw_X11_within ml_RX11_71 rfl d_X11_step_3 rfl (Nat.le_of_ble_eq_true rfl) (AMet.mono h (aw_toI (fun x2 σ1 h => ?_)))
  obtain ⟨hS1, h⟩ := h
  refine aw_if_eq (tgt := 28) d_X11_step_6 (by decide) (fun c => ?_) (fun c => ?_)
  · have h := h.1 c
    refine aw_iconst (x := -1) d_X11_step_28 (by decide) ?_
    exact aw_ret d_X11_step_29 rfl rfl h
  · have h := h.2 c
    refine aw_aload_n (i := 0) d_X11_step_9 rfl rfl ?_
    refine aw_getRv fl_RX11_10 rfl (r := some (7, 0)) (St.get hS1 12 6 0 7 0 (by decide)) d_X11_step_10 ?_
    refine aw_callV0 (as := []) mw_X6_size (by decide +kernel) ml_RX11_157 rfl d_X11_step_13 rfl (Nat.le_of_ble_eq_true rfl) (AMet.mono h (aw_toI (fun x4 σ3 h => ?_)))
    obtain ⟨hS3, h⟩ := h
    refine aw_if_eq (tgt := 28) d_X11_step_16 (by decide) (fun c => ?_) (fun c => ?_)
    · have h := h.1 c
      refine aw_iconst (x := -1) d_X11_step_28 (by decide) ?_
      exact aw_ret d_X11_step_29 rfl rfl h
    · have h := h.2 c
      refine aw_aload_n (i := 0) d_X11_step_19 rfl rfl ?_
      refine aw_getI fl_RX11_140 rfl d_X11_step_20 ?_
      refine aw_bipush (x := 60) d_X11_step_23 (by decide) ?_
      refine aw_icmp_lt (tgt := 30) d_X11_step_25 (by decide) (fun c => ?_) (fun c => ?_)
      · have h := h.1 c
        refine aw_aload_n (i := 0) d_X11_step_30 rfl rfl ?_
        refine aw_getRv fl_RX11_56 rfl (r := some (4, 0)) (St.get hS3 12 7 0 4 0 (by decide)) d_X11_step_31 ?_
        refine aw_aload_n (i := 0) d_X11_step_34 rfl rfl ?_
        refine aw_getRv fl_RX11_20 rfl (r := some (0, 0)) (St.get hS3 12 0 0 0 0 (by decide)) d_X11_step_35 ?_
        refine aw_iload_n (i := 2) d_X11_step_38 rfl rfl ?_
        refine aw_aload_n (i := 0) d_X11_step_39 rfl rfl ?_
        refine aw_getI fl_RX11_140 rfl d_X11_step_40 ?_
        obtain ⟨mc8, ms9, kk6, nn7, ek, en, h⟩ := h
        rw [ek, en]
        refine aw_callV (as := [xR (some (0, 0)), xI a2, xI (gI σ3 12 10 0)]) mw_X3_comeAll (by decide +kernel) ml_RX11_174 rfl d_X11_step_43 rfl (Nat.le_of_ble_eq_true rfl) (AMet.mono h (aw_toV (fun σ5 h => ?_)))
        obtain ⟨hS5, h⟩ := h
        refine aw_aload_n (i := 0) d_X11_step_46 rfl rfl ?_
        refine aw_getRv fl_RX11_56 rfl (r := some (4, 0)) (St.get hS5 12 7 0 4 0 (by decide)) d_X11_step_47 ?_
        refine aw_iload_n (i := 1) d_X11_step_50 rfl rfl ?_
        refine aw_callV0 (as := [xI a1]) mw_X3_dressAll (by decide +kernel) ml_RX11_178 rfl d_X11_step_51 rfl (Nat.le_of_ble_eq_true rfl) (AMet.mono h (aw_toV (fun σ10 h => ?_)))
        refine aw_aload_n (i := 0) d_X11_step_54 rfl rfl ?_
        obtain ⟨mc14, ms15, kk12, nn13, ek, en, h⟩ := h
        rw [ek, en]
        refine aw_callV (as := []) mw_X11_sendAll (by decide +kernel) ml_RX11_181 rfl d_X11_step_55 rfl (Nat.le_of_ble_eq_true rfl) (AMet.mono h (aw_toI (fun x16 σ11 h => ?_)))
        obtain ⟨hS11, h⟩ := h
        refine aw_istore_n (i := 3) d_X11_step_58 rfl (by decide) ?_
        refine aw_aload_n (i := 0) d_X11_step_59 rfl rfl ?_
        refine aw_getRv fl_RX11_10 rfl (r := some (7, 0)) (St.get hS11 12 6 0 7 0 (by decide)) d_X11_step_60 ?_
        obtain ⟨kk17, nn18, ek, en, h⟩ := h
        rw [ek, en]
        refine aw_new (c := 0) (n := 3) (r := (RJx4a65c, TJx4a65c, 3)) rfl rfl nw_RX11_40 d_X11_step_63 ?_
        refine aw_dupR d_X11_step_66 ?_
        refine aw_callI0 (as := []) mw_Jx4a65c_init_da8c8 rfl rfl ml_RX11_42 rfl d_X11_step_67 rfl (Nat.le_of_ble_eq_true rfl) (AMet.mono h (aw_toV (fun σ19 h => ?_)))
        refine aw_callV0 (as := [xR (some (0, (cnt σ11 0)))]) mw_X6_startWith (by decide +kernel) ml_RX11_114 rfl d_X11_step_70 rfl (Nat.le_of_ble_eq_true rfl) (AMet.mono h (aw_toV (fun σ20 h => ?_)))
        refine aw_aload_n (i := 0) d_X11_step_73 rfl rfl ?_
        refine aw_dupR d_X11_step_74 ?_
        refine aw_getI fl_RX11_140 rfl d_X11_step_75 ?_
        refine aw_iconst (x := 1) d_X11_step_78 (by decide) ?_
        refine aw_iadd d_X11_step_79 ?_
        refine aw_putI fl_RX11_140 (by decide) (fin_no (r := (RX11, TX11, 11)) rfl rfl) d_X11_step_80 rfl ⟨rfl, rfl⟩ ?_
        refine aw_iload_n (i := 3) d_X11_step_83 rfl rfl ?_
        exact aw_ret d_X11_step_84 rfl rfl h
      · have h := h.2 c
        refine aw_iconst (x := -1) d_X11_step_28 (by decide) ?_
        exact aw_ret d_X11_step_29 rfl rfl h
set_option maxRecDepth 20000 in
theorem vc_X11_record {G : GG} {l : Launch} {d : Nat} {post : Option AVal → AS → Prop} {σ : AS} {kk nn : Nat} {a1 : Int32} {a2 : Int32} {a3 : Int32} (h : AMet G l M_X11_findRecord d 0 0 [xR (some (12, 0)), xI a1, xI a2] σ (retR (fun r2 σ1 => (((r2 = none → post (some (xI (-1))) σ1)) ∧ ((∀ n : Nm, (r2 = some n → (∃ j3 : Nat, (n = (11, j3) ∧ (AMet G l M_X10_answer d 0 0 [xR (some (11, j3)), xI a3] σ1 (retI (fun x5 σ4 => post (some (xI x5)) σ4)))))))))))) : AW G l M_X11_record (d + 1) post σ kk nn 0 [some (xR (some (12, 0))), some (xI a1), some (xI a2), some (xI a3), none] [] := by
  refine aw_aload_n (i := 0) d_X11_record_0 rfl rfl ?_
  refine aw_iload_n (i := 1) d_X11_record_1 rfl rfl ?_
  refine aw_iload_n (i := 2) d_X11_record_2 rfl rfl ?_
  refine aw_callV0 (as := [xI a1, xI a2]) mw_X11_findRecord (by decide +kernel) ml_RX11_184 rfl d_X11_record_3 rfl (Nat.le_of_ble_eq_true rfl) (AMet.mono h (aw_toR (fun r2 σ1 h => ?_)))
  refine aw_astore (i := 4) d_X11_record_6 (by decide) ?_
  refine aw_aload (i := 4) d_X11_record_8 rfl ?_
  refine aw_ifnonnull (tgt := 17) d_X11_record_10 (by decide) (fun n c => ?_) (fun c => ?_)
  · obtain ⟨j3, e9, h⟩ := h.2 n c
    subst e9
    try rw [c]
    refine aw_aload (i := 4) d_X11_record_17 rfl ?_
    refine aw_iload_n (i := 3) d_X11_record_19 rfl rfl ?_
    refine aw_callV0 (as := [xI a3]) mw_X10_answer (by decide +kernel) ml_RX11_188 rfl d_X11_record_20 rfl (Nat.le_of_ble_eq_true rfl) (AMet.mono h (aw_toI (fun x5 σ4 h => ?_)))
    exact aw_ret d_X11_record_23 rfl rfl h
  · have h := h.1 c
    try rw [c]
    refine aw_iconst (x := -1) d_X11_record_13 (by decide) ?_
    refine aw_goto (tgt := 23) d_X11_record_14 (by decide) ?_
    exact aw_ret d_X11_record_23 rfl rfl h
set_option maxRecDepth 20000 in
theorem vc_X11_tell {G : GG} {l : Launch} {d : Nat} {post : Option AVal → AS → Prop} {σ : AS} {kk nn : Nat} {a1 : Int32} {a2 : Int32} (h : AMet G l M_X11_find d 0 0 [xR (some (12, 0)), xI a1] σ (retR (fun r2 σ1 => (((r2 = none → post (some (xI (-1))) σ1)) ∧ ((∀ n : Nm, (r2 = some n → (∃ j3 : Nat, (n = (6, j3) ∧ (AMet G l M_X11_isScene d 0 0 [xI a2] σ1 (retI (fun x5 σ4 => (St σ4 ∧ (((x5 = 0 → post (some (xI (-1))) σ4)) ∧ ((¬ x5 = 0 → ((((gI σ4 5 2 0) < 200 → AMet G l M_X4_add d 0 0 [xR (some (5, 0)), xR (some (6, j3)), xI a2] (sI σ4 5 2 0 ((gI σ4 5 2 0) + 1)) (retI (fun x7 σ6 => post (some (xI x7)) σ6)))) ∧ ((¬ (gI σ4 5 2 0) < 200 → post (some (xI (-1))) σ4))))))))))))))))))) : AW G l M_X11_tell (d + 1) post σ kk nn 0 [some (xR (some (12, 0))), some (xI a1), some (xI a2), none] [] := by
  refine aw_aload_n (i := 0) d_X11_tell_0 rfl rfl ?_
  refine aw_iload_n (i := 1) d_X11_tell_1 rfl rfl ?_
  refine aw_callV0 (as := [xI a1]) mw_X11_find (by decide +kernel) ml_RX11_89 rfl d_X11_tell_2 rfl (Nat.le_of_ble_eq_true rfl) (AMet.mono h (aw_toR (fun r2 σ1 h => ?_)))
  refine aw_astore_n (i := 3) d_X11_tell_5 rfl (by decide) ?_
  refine aw_aload_n (i := 3) d_X11_tell_6 rfl rfl ?_
  refine aw_ifnull (tgt := 30) d_X11_tell_7 (by decide) (fun c => ?_) (fun n c => ?_)
  · have h := h.1 c
    try rw [c]
    refine aw_iconst (x := -1) d_X11_tell_30 (by decide) ?_
    exact aw_ret d_X11_tell_31 rfl rfl h
  · obtain ⟨j3, e9, h⟩ := h.2 n c
    subst e9
    try rw [c]
    refine aw_iload_n (i := 2) d_X11_tell_10 rfl rfl ?_
    refine aw_callS0 (as := [xI a2]) mw_X11_isScene ml_RX11_193 rfl d_X11_tell_11 rfl (Nat.le_of_ble_eq_true rfl) (AMet.mono h (aw_toI (fun x5 σ4 h => ?_)))
    obtain ⟨hS4, h⟩ := h
    refine aw_if_eq (tgt := 30) d_X11_tell_14 (by decide) (fun c => ?_) (fun c => ?_)
    · have h := h.1 c
      refine aw_iconst (x := -1) d_X11_tell_30 (by decide) ?_
      exact aw_ret d_X11_tell_31 rfl rfl h
    · have h := h.2 c
      refine aw_aload_n (i := 0) d_X11_tell_17 rfl rfl ?_
      refine aw_getRv fl_RX11_49 rfl (r := some (5, 0)) (St.get hS4 12 5 0 5 0 (by decide)) d_X11_tell_18 ?_
      refine aw_getI fl_RX11_197 rfl d_X11_tell_21 ?_
      refine aw_sipush (x := 200) d_X11_tell_24 (by decide) ?_
      refine aw_icmp_lt (tgt := 32) d_X11_tell_27 (by decide) (fun c => ?_) (fun c => ?_)
      · have h := h.1 c
        refine aw_aload_n (i := 0) d_X11_tell_32 rfl rfl ?_
        refine aw_getRv fl_RX11_49 rfl (r := some (5, 0)) (St.get hS4 12 5 0 5 0 (by decide)) d_X11_tell_33 ?_
        refine aw_dupR d_X11_tell_36 ?_
        refine aw_getI fl_RX11_197 rfl d_X11_tell_37 ?_
        refine aw_iconst (x := 1) d_X11_tell_40 (by decide) ?_
        refine aw_iadd d_X11_tell_41 ?_
        refine aw_putI fl_RX11_197 (by decide) (fin_no (r := (RX4, TX4, 3)) rfl rfl) d_X11_tell_42 rfl ⟨rfl, rfl⟩ ?_
        refine aw_aload_n (i := 0) d_X11_tell_45 rfl rfl ?_
        refine aw_getRv fl_RX11_49 rfl (r := some (5, 0)) (St.get (St.sI hS4) 12 5 0 5 0 (by decide)) d_X11_tell_46 ?_
        refine aw_aload_n (i := 3) d_X11_tell_49 rfl rfl ?_
        refine aw_iload_n (i := 2) d_X11_tell_50 rfl rfl ?_
        refine aw_callV0 (as := [xR (some (6, j3)), xI a2]) mw_X4_add (by decide +kernel) ml_RX11_200 rfl d_X11_tell_51 rfl (Nat.le_of_ble_eq_true rfl) (AMet.mono h (aw_toI (fun x7 σ6 h => ?_)))
        exact aw_ret d_X11_tell_54 rfl rfl h
      · have h := h.2 c
        refine aw_iconst (x := -1) d_X11_tell_30 (by decide) ?_
        exact aw_ret d_X11_tell_31 rfl rfl h
set_option maxRecDepth 20000 in
theorem vc_X11_retake {G : GG} {l : Launch} {d : Nat} {post : Option AVal → AS → Prop} {σ : AS} {kk nn : Nat} {a1 : Int32} {a2 : Int32} (h : AMet G l M_X11_isScene d 0 0 [xI a1] σ (retI (fun x2 σ1 => (((x2 = 0 → post (some (xI (-1))) σ1)) ∧ ((¬ x2 = 0 → AMet G l M_X11_within d 0 0 [xI a2, xI 0, xI 1439] σ1 (retI (fun x4 σ3 => (St σ3 ∧ (((¬ x4 = 0 → AW G l M_X11_retake (d + 1) post (sI σ3 8 1 5 0) kk nn 30 [some (xR (some (12, 0))), some (xI a1), some (xI a2), some (xI 0), none, none] [])) ∧ ((x4 = 0 → post (some (xI (-1))) σ3)))))))))))) : AW G l M_X11_retake (d + 1) post σ kk nn 0 [some (xR (some (12, 0))), some (xI a1), some (xI a2), none, none, none] [] := by
  refine aw_iload_n (i := 1) d_X11_retake_0 rfl rfl ?_
  refine aw_callS0 (as := [xI a1]) mw_X11_isScene ml_RX11_193 rfl d_X11_retake_1 rfl (Nat.le_of_ble_eq_true rfl) (AMet.mono h (aw_toI (fun x2 σ1 h => ?_)))
  refine aw_if_eq (tgt := 18) d_X11_retake_4 (by decide) (fun c => ?_) (fun c => ?_)
  · have h := h.1 c
    refine aw_iconst (x := -1) d_X11_retake_18 (by decide) ?_
    exact aw_ret d_X11_retake_19 rfl rfl h
  · have h := h.2 c
    refine aw_iload_n (i := 2) d_X11_retake_7 rfl rfl ?_
    refine aw_iconst (x := 0) d_X11_retake_8 (by decide) ?_
    refine aw_sipush (x := 1439) d_X11_retake_9 (by decide) ?_
    refine aw_callS0 (as := [xI a2, xI 0, xI 1439]) mw_X11_within ml_RX11_71 rfl d_X11_retake_12 rfl (Nat.le_of_ble_eq_true rfl) (AMet.mono h (aw_toI (fun x4 σ3 h => ?_)))
    obtain ⟨hS3, h⟩ := h
    refine aw_if_ne (tgt := 20) d_X11_retake_15 (by decide) (fun c => ?_) (fun c => ?_)
    · have h := h.1 c
      refine aw_aload_n (i := 0) d_X11_retake_20 rfl rfl ?_
      refine aw_getRv fl_RX11_68 rfl (r := some (8, 5)) (St.get hS3 12 9 0 8 5 (by decide)) d_X11_retake_21 ?_
      refine aw_iconst (x := 0) d_X11_retake_24 (by decide) ?_
      refine aw_putI fl_RX11_101 (by decide) (fin_no (r := (RX7, TX7, 2)) rfl rfl) d_X11_retake_25 rfl ⟨rfl, rfl⟩ ?_
      refine aw_iconst (x := 0) d_X11_retake_28 (by decide) ?_
      refine aw_istore_n (i := 3) d_X11_retake_29 rfl (by decide) ?_
      exact h
    · have h := h.2 c
      refine aw_iconst (x := -1) d_X11_retake_18 (by decide) ?_
      exact aw_ret d_X11_retake_19 rfl rfl h
set_option maxRecDepth 20000 in
theorem vc_X11_retake_30 {G : GG} {l : Launch} {d : Nat} {post : Option AVal → AS → Prop} {σ : AS} {kk nn : Nat} {v1 : Int32} {v2 : Int32} {v3 : Int32} (hS : St σ) (h : AMet G l M_Jx4a65c_size_8abf5 d 0 0 [xR (some (0, 0))] σ (retI (fun x6 σ5 => (St σ5 ∧ (((x6 ≤ v3 → post (some (xI (gI σ5 8 1 5))) σ5)) ∧ ((¬ x6 ≤ v3 → AMet G l M_Jx4a65c_get_915e3 d 0 0 [xR (some (0, 0)), xI v3] σ5 (retR (fun r8 σ7 => (∃ j9 : Nat, (r8 = some (6, j9) ∧ (((¬ (gI σ7 6 6 j9) = 0 → AMet G l M_X5_wasIn d 0 0 [xR (some (6, j9)), xI v1] σ7 (retI (fun x11 σ10 => (St σ10 ∧ (((x11 = 0 → AW G l M_X11_retake (d + 1) post σ10 kk nn 30 [some (xR (some (12, 0))), some (xI v1), some (xI v2), some (xI (v3 + 1)), none, none] [])) ∧ ((¬ x11 = 0 → AMet G l M_X7_add d 0 0 [xR (some (8, 5)), xI v3] σ10 (retV (fun σ12 => AW G l M_X11_retake (d + 1) post σ12 kk nn 30 [some (xR (some (12, 0))), some (xI v1), some (xI v2), some (xI (v3 + 1)), none, none] [])))))))))) ∧ (((gI σ7 6 6 j9) = 0 → (((((1440 * (gI σ7 12 10 0)) + v2) < (gI σ7 6 8 j9) → AMet G l M_X5_wasIn d 0 0 [xR (some (6, j9)), xI v1] σ7 (retI (fun x14 σ13 => (St σ13 ∧ (((x14 = 0 → AW G l M_X11_retake (d + 1) post σ13 kk nn 30 [some (xR (some (12, 0))), some (xI v1), some (xI v2), some (xI (v3 + 1)), none, none] [])) ∧ ((¬ x14 = 0 → AMet G l M_X7_add d 0 0 [xR (some (8, 5)), xI v3] σ13 (retV (fun σ15 => AW G l M_X11_retake (d + 1) post σ15 kk nn 30 [some (xR (some (12, 0))), some (xI v1), some (xI v2), some (xI (v3 + 1)), none, none] [])))))))))) ∧ ((¬ ((1440 * (gI σ7 12 10 0)) + v2) < (gI σ7 6 8 j9) → AMet G l M_X5_wasIn d 0 0 [xR (some (6, j9)), xI v1] σ7 (retI (fun x17 σ16 => (((x17 = 0 → AW G l M_X11_retake (d + 1) post σ16 kk nn 30 [some (xR (some (12, 0))), some (xI v1), some (xI v2), some (xI (v3 + 1)), none, none] [])) ∧ ((¬ x17 = 0 → AW G l M_X11_retake (d + 1) post σ16 kk nn 30 [some (xR (some (12, 0))), some (xI v1), some (xI v2), some (xI (v3 + 1)), none, none] [])))))))))))))))))))))) : AW G l M_X11_retake (d + 1) post σ kk nn 30 [some (xR (some (12, 0))), some (xI v1), some (xI v2), some (xI v3), none, none] [] := by
  refine aw_iload_n (i := 3) d_X11_retake_30 rfl rfl ?_
  refine aw_aload_n (i := 0) d_X11_retake_31 rfl rfl ?_
  refine aw_getRv fl_RX11_20 rfl (r := some (0, 0)) (St.get hS 12 0 0 0 0 (by decide)) d_X11_retake_32 ?_
  refine aw_callV0 (as := []) mw_Jx4a65c_size_8abf5 (by decide +kernel) ml_RX11_76 rfl d_X11_retake_35 rfl (Nat.le_of_ble_eq_true rfl) (AMet.mono h (aw_toI (fun x6 σ5 h => ?_)))
  obtain ⟨hS5, h⟩ := h
  refine aw_icmp_ge (tgt := 115) d_X11_retake_38 (by decide) (fun c => ?_) (fun c => ?_)
  · have h := h.1 c
    refine aw_aload_n (i := 0) d_X11_retake_115 rfl rfl ?_
    refine aw_getRv fl_RX11_68 rfl (r := some (8, 5)) (St.get hS5 12 9 0 8 5 (by decide)) d_X11_retake_116 ?_
    refine aw_getI fl_RX11_101 rfl d_X11_retake_119 ?_
    exact aw_ret d_X11_retake_122 rfl rfl h
  · have h := h.2 c
    refine aw_aload_n (i := 0) d_X11_retake_41 rfl rfl ?_
    refine aw_getRv fl_RX11_20 rfl (r := some (0, 0)) (St.get hS5 12 0 0 0 0 (by decide)) d_X11_retake_42 ?_
    refine aw_iload_n (i := 3) d_X11_retake_45 rfl rfl ?_
    refine aw_callV0 (as := [xI v3]) mw_Jx4a65c_get_915e3 (by decide +kernel) ml_RX11_215 rfl d_X11_retake_46 rfl (Nat.le_of_ble_eq_true rfl) (AMet.mono h (aw_toR (fun r8 σ7 h => ?_)))
    obtain ⟨j9, ej9, h⟩ := h
    rw [ej9]
    refine aw_cast (c := 6) (by decide) cl_RX11_80 d_X11_retake_49 ?_
    refine aw_astore (i := 4) d_X11_retake_52 (by decide) ?_
    refine aw_aload (i := 4) d_X11_retake_54 rfl ?_
    refine aw_getI fl_RX11_97 rfl d_X11_retake_56 ?_
    refine aw_if_ne (tgt := 84) d_X11_retake_59 (by decide) (fun c => ?_) (fun c => ?_)
    · have h := h.1 c
      refine aw_iconst (x := 0) d_X11_retake_84 (by decide) ?_
      refine aw_istore (i := 5) d_X11_retake_85 (by decide) ?_
      refine aw_aload (i := 4) d_X11_retake_87 rfl ?_
      refine aw_iload_n (i := 1) d_X11_retake_89 rfl rfl ?_
      refine aw_callV0 (as := [xI v1]) mw_X5_wasIn (by decide +kernel) ml_RX11_222 rfl d_X11_retake_90 rfl (Nat.le_of_ble_eq_true rfl) (AMet.mono h (aw_toI (fun x11 σ10 h => ?_)))
      obtain ⟨hS10, h⟩ := h
      refine aw_if_eq (tgt := 109) d_X11_retake_93 (by decide) (fun c => ?_) (fun c => ?_)
      · have h := h.1 c
        refine aw_iinc (i := 3) (v := v3 + 1) d_X11_retake_109 rfl rfl (by decide) ?_
        refine aw_goto (tgt := 30) d_X11_retake_112 (by decide) ?_
        exact AW.weak h (by exact ⟨rfl, ⟨rfl, ⟨rfl, ⟨rfl, trivial⟩⟩⟩⟩)
      · have h := h.2 c
        refine aw_iload (i := 5) d_X11_retake_96 rfl ?_
        refine aw_if_ne (tgt := 109) d_X11_retake_98 (by decide) (fun c => absurd c (by decide)) (fun _ => ?_)
        refine aw_aload_n (i := 0) d_X11_retake_101 rfl rfl ?_
        refine aw_getRv fl_RX11_68 rfl (r := some (8, 5)) (St.get hS10 12 9 0 8 5 (by decide)) d_X11_retake_102 ?_
        refine aw_iload_n (i := 3) d_X11_retake_105 rfl rfl ?_
        refine aw_callV0 (as := [xI v3]) mw_X7_add (by decide +kernel) ml_RX11_225 rfl d_X11_retake_106 rfl (Nat.le_of_ble_eq_true rfl) (AMet.mono h (aw_toV (fun σ12 h => ?_)))
        refine aw_iinc (i := 3) (v := v3 + 1) d_X11_retake_109 rfl rfl (by decide) ?_
        refine aw_goto (tgt := 30) d_X11_retake_112 (by decide) ?_
        exact AW.weak h (by exact ⟨rfl, ⟨rfl, ⟨rfl, ⟨rfl, trivial⟩⟩⟩⟩)
    · have h := h.2 c
      refine aw_aload (i := 4) d_X11_retake_62 rfl ?_
      refine aw_getI fl_RX11_219 rfl d_X11_retake_64 ?_
      refine aw_sipush (x := 1440) d_X11_retake_67 (by decide) ?_
      refine aw_aload_n (i := 0) d_X11_retake_70 rfl rfl ?_
      refine aw_getI fl_RX11_140 rfl d_X11_retake_71 ?_
      refine aw_imul d_X11_retake_74 ?_
      refine aw_iload_n (i := 2) d_X11_retake_75 rfl rfl ?_
      refine aw_iadd d_X11_retake_76 ?_
      refine aw_icmp_gt (tgt := 84) d_X11_retake_77 (by decide) (fun c => ?_) (fun c => ?_)
      · have h := h.1 c
        refine aw_iconst (x := 0) d_X11_retake_84 (by decide) ?_
        refine aw_istore (i := 5) d_X11_retake_85 (by decide) ?_
        refine aw_aload (i := 4) d_X11_retake_87 rfl ?_
        refine aw_iload_n (i := 1) d_X11_retake_89 rfl rfl ?_
        refine aw_callV0 (as := [xI v1]) mw_X5_wasIn (by decide +kernel) ml_RX11_222 rfl d_X11_retake_90 rfl (Nat.le_of_ble_eq_true rfl) (AMet.mono h (aw_toI (fun x14 σ13 h => ?_)))
        obtain ⟨hS13, h⟩ := h
        refine aw_if_eq (tgt := 109) d_X11_retake_93 (by decide) (fun c => ?_) (fun c => ?_)
        · have h := h.1 c
          refine aw_iinc (i := 3) (v := v3 + 1) d_X11_retake_109 rfl rfl (by decide) ?_
          refine aw_goto (tgt := 30) d_X11_retake_112 (by decide) ?_
          exact AW.weak h (by exact ⟨rfl, ⟨rfl, ⟨rfl, ⟨rfl, trivial⟩⟩⟩⟩)
        · have h := h.2 c
          refine aw_iload (i := 5) d_X11_retake_96 rfl ?_
          refine aw_if_ne (tgt := 109) d_X11_retake_98 (by decide) (fun c => absurd c (by decide)) (fun _ => ?_)
          refine aw_aload_n (i := 0) d_X11_retake_101 rfl rfl ?_
          refine aw_getRv fl_RX11_68 rfl (r := some (8, 5)) (St.get hS13 12 9 0 8 5 (by decide)) d_X11_retake_102 ?_
          refine aw_iload_n (i := 3) d_X11_retake_105 rfl rfl ?_
          refine aw_callV0 (as := [xI v3]) mw_X7_add (by decide +kernel) ml_RX11_225 rfl d_X11_retake_106 rfl (Nat.le_of_ble_eq_true rfl) (AMet.mono h (aw_toV (fun σ15 h => ?_)))
          refine aw_iinc (i := 3) (v := v3 + 1) d_X11_retake_109 rfl rfl (by decide) ?_
          refine aw_goto (tgt := 30) d_X11_retake_112 (by decide) ?_
          exact AW.weak h (by exact ⟨rfl, ⟨rfl, ⟨rfl, ⟨rfl, trivial⟩⟩⟩⟩)
      · have h := h.2 c
        refine aw_iconst (x := 1) d_X11_retake_80 (by decide) ?_
        refine aw_goto (tgt := 85) d_X11_retake_81 (by decide) ?_
        refine aw_istore (i := 5) d_X11_retake_85 (by decide) ?_
        refine aw_aload (i := 4) d_X11_retake_87 rfl ?_
        refine aw_iload_n (i := 1) d_X11_retake_89 rfl rfl ?_
        refine aw_callV0 (as := [xI v1]) mw_X5_wasIn (by decide +kernel) ml_RX11_222 rfl d_X11_retake_90 rfl (Nat.le_of_ble_eq_true rfl) (AMet.mono h (aw_toI (fun x17 σ16 h => ?_)))
        refine aw_if_eq (tgt := 109) d_X11_retake_93 (by decide) (fun c => ?_) (fun c => ?_)
        · have h := h.1 c
          refine aw_iinc (i := 3) (v := v3 + 1) d_X11_retake_109 rfl rfl (by decide) ?_
          refine aw_goto (tgt := 30) d_X11_retake_112 (by decide) ?_
          exact AW.weak h (by exact ⟨rfl, ⟨rfl, ⟨rfl, ⟨rfl, trivial⟩⟩⟩⟩)
        · have h := h.2 c
          refine aw_iload (i := 5) d_X11_retake_96 rfl ?_
          refine aw_if_ne (tgt := 109) d_X11_retake_98 (by decide) (fun _ => ?_) (fun c => absurd c (by decide))
          refine aw_iinc (i := 3) (v := v3 + 1) d_X11_retake_109 rfl rfl (by decide) ?_
          refine aw_goto (tgt := 30) d_X11_retake_112 (by decide) ?_
          exact AW.weak h (by exact ⟨rfl, ⟨rfl, ⟨rfl, ⟨rfl, trivial⟩⟩⟩⟩)
set_option maxRecDepth 20000 in
theorem vc_X11_lacks {G : GG} {l : Launch} {d : Nat} {post : Option AVal → AS → Prop} {σ : AS} {kk nn : Nat} {a1 : Int32} (hS : St σ) (h : AMet G l M_X7_at d 0 0 [xR (some (8, 5)), xI a1] σ (retI (fun x2 σ1 => post (some (xI x2)) σ1))) : AW G l M_X11_lacks (d + 1) post σ kk nn 0 [some (xR (some (12, 0))), some (xI a1)] [] := by
  refine aw_aload_n (i := 0) d_X11_lacks_0 rfl rfl ?_
  refine aw_getRv fl_RX11_68 rfl (r := some (8, 5)) (St.get hS 12 9 0 8 5 (by decide)) d_X11_lacks_1 ?_
  refine aw_iload_n (i := 1) d_X11_lacks_4 rfl rfl ?_
  refine aw_callV0 (as := [xI a1]) mw_X7_at (by decide +kernel) ml_RX11_170 rfl d_X11_lacks_5 rfl (Nat.le_of_ble_eq_true rfl) (AMet.mono h (aw_toI (fun x2 σ1 h => ?_)))
  exact aw_ret d_X11_lacks_8 rfl rfl h
set_option maxRecDepth 20000 in
theorem vc_X11_buses {G : GG} {l : Launch} {d : Nat} {post : Option AVal → AS → Prop} {σ : AS} {kk nn : Nat} {a1 : Int32} {a2 : Int32} (h : AMet G l M_X11_within d 0 0 [xI a1, xI 0, xI 3] σ (retI (fun x2 σ1 => (((x2 = 0 → post (some (xI (-1))) σ1)) ∧ ((¬ x2 = 0 → AMet G l M_X11_within d 0 0 [xI a2, xI 1, xI 100] σ1 (retI (fun x4 σ3 => (((¬ x4 = 0 → AW G l M_X11_buses (d + 1) post σ3 kk nn 26 [some (xR (some (12, 0))), some (xI a1), some (xI a2), some (xI 0), some (xI 0), none] [])) ∧ ((x4 = 0 → post (some (xI (-1))) σ3))))))))))) : AW G l M_X11_buses (d + 1) post σ kk nn 0 [some (xR (some (12, 0))), some (xI a1), some (xI a2), none, none, none] [] := by
  refine aw_iload_n (i := 1) d_X11_buses_0 rfl rfl ?_
  refine aw_iconst (x := 0) d_X11_buses_1 (by decide) ?_
  refine aw_iconst (x := 3) d_X11_buses_2 (by decide) ?_
  refine aw_callS0 (as := [xI a1, xI 0, xI 3]) mw_X11_within ml_RX11_71 rfl d_X11_buses_3 rfl (Nat.le_of_ble_eq_true rfl) (AMet.mono h (aw_toI (fun x2 σ1 h => ?_)))
  refine aw_if_eq (tgt := 19) d_X11_buses_6 (by decide) (fun c => ?_) (fun c => ?_)
  · have h := h.1 c
    refine aw_iconst (x := -1) d_X11_buses_19 (by decide) ?_
    exact aw_ret d_X11_buses_20 rfl rfl h
  · have h := h.2 c
    refine aw_iload_n (i := 2) d_X11_buses_9 rfl rfl ?_
    refine aw_iconst (x := 1) d_X11_buses_10 (by decide) ?_
    refine aw_bipush (x := 100) d_X11_buses_11 (by decide) ?_
    refine aw_callS0 (as := [xI a2, xI 1, xI 100]) mw_X11_within ml_RX11_71 rfl d_X11_buses_13 rfl (Nat.le_of_ble_eq_true rfl) (AMet.mono h (aw_toI (fun x4 σ3 h => ?_)))
    refine aw_if_ne (tgt := 21) d_X11_buses_16 (by decide) (fun c => ?_) (fun c => ?_)
    · have h := h.1 c
      refine aw_iconst (x := 0) d_X11_buses_21 (by decide) ?_
      refine aw_istore_n (i := 3) d_X11_buses_22 rfl (by decide) ?_
      refine aw_iconst (x := 0) d_X11_buses_23 (by decide) ?_
      refine aw_istore (i := 4) d_X11_buses_24 (by decide) ?_
      exact h
    · have h := h.2 c
      refine aw_iconst (x := -1) d_X11_buses_19 (by decide) ?_
      exact aw_ret d_X11_buses_20 rfl rfl h
set_option maxRecDepth 20000 in
theorem vc_X11_buses_26 {G : GG} {l : Launch} {d : Nat} {post : Option AVal → AS → Prop} {σ : AS} {kk nn : Nat} {v1 : Int32} {v2 : Int32} {v3 : Int32} {v4 : Int32} (hS : St σ) (h : AMet G l M_Jx4a65c_size_8abf5 d 0 0 [xR (some (0, 0))] σ (retI (fun x6 σ5 => (St σ5 ∧ (((x6 ≤ v4 → (¬ v2 = 0 ∧ post (some (xI (((v3 + v2) - 1) / v2))) σ5))) ∧ ((¬ x6 ≤ v4 → AMet G l M_Jx4a65c_get_915e3 d 0 0 [xR (some (0, 0)), xI v4] σ5 (retR (fun r8 σ7 => (∃ j9 : Nat, (r8 = some (6, j9) ∧ ((((gR σ7 6 11 j9) = none → AW G l M_X11_buses (d + 1) post σ7 kk nn 26 [some (xR (some (12, 0))), some (xI v1), some (xI v2), some (xI v3), some (xI (v4 + 1)), none] [])) ∧ ((∀ n : Nm, ((gR σ7 6 11 j9) = some n → (∃ j10 : Nat, (n = (2, j10) ∧ (((¬ (gI σ7 6 4 j9) = v1 → AW G l M_X11_buses (d + 1) post σ7 kk nn 26 [some (xR (some (12, 0))), some (xI v1), some (xI v2), some (xI v3), some (xI (v4 + 1)), none] [])) ∧ (((gI σ7 6 4 j9) = v1 → AW G l M_X11_buses (d + 1) post σ7 kk nn 26 [some (xR (some (12, 0))), some (xI v1), some (xI v2), some (xI (v3 + 1)), some (xI (v4 + 1)), none] [])))))))))))))))))))) : AW G l M_X11_buses (d + 1) post σ kk nn 26 [some (xR (some (12, 0))), some (xI v1), some (xI v2), some (xI v3), some (xI v4), none] [] := by
  refine aw_iload (i := 4) d_X11_buses_26 rfl ?_
  refine aw_aload_n (i := 0) d_X11_buses_28 rfl rfl ?_
  refine aw_getRv fl_RX11_20 rfl (r := some (0, 0)) (St.get hS 12 0 0 0 0 (by decide)) d_X11_buses_29 ?_
  refine aw_callV0 (as := []) mw_Jx4a65c_size_8abf5 (by decide +kernel) ml_RX11_76 rfl d_X11_buses_32 rfl (Nat.le_of_ble_eq_true rfl) (AMet.mono h (aw_toI (fun x6 σ5 h => ?_)))
  obtain ⟨hS5, h⟩ := h
  refine aw_icmp_ge (tgt := 78) d_X11_buses_35 (by decide) (fun c => ?_) (fun c => ?_)
  · have h := h.1 c
    refine aw_iload_n (i := 3) d_X11_buses_78 rfl rfl ?_
    refine aw_iload_n (i := 2) d_X11_buses_79 rfl rfl ?_
    refine aw_iadd d_X11_buses_80 ?_
    refine aw_iconst (x := 1) d_X11_buses_81 (by decide) ?_
    refine aw_isub d_X11_buses_82 ?_
    refine aw_iload_n (i := 2) d_X11_buses_83 rfl rfl ?_
    obtain ⟨hq, h⟩ := h
    refine aw_idiv d_X11_buses_84 hq ?_
    exact aw_ret d_X11_buses_85 rfl rfl h
  · have h := h.2 c
    refine aw_aload_n (i := 0) d_X11_buses_38 rfl rfl ?_
    refine aw_getRv fl_RX11_20 rfl (r := some (0, 0)) (St.get hS5 12 0 0 0 0 (by decide)) d_X11_buses_39 ?_
    refine aw_iload (i := 4) d_X11_buses_42 rfl ?_
    refine aw_callV0 (as := [xI v4]) mw_Jx4a65c_get_915e3 (by decide +kernel) ml_RX11_215 rfl d_X11_buses_44 rfl (Nat.le_of_ble_eq_true rfl) (AMet.mono h (aw_toR (fun r8 σ7 h => ?_)))
    obtain ⟨j9, ej9, h⟩ := h
    rw [ej9]
    refine aw_cast (c := 6) (by decide) cl_RX11_80 d_X11_buses_47 ?_
    refine aw_astore (i := 5) d_X11_buses_50 (by decide) ?_
    refine aw_aload (i := 5) d_X11_buses_52 rfl ?_
    refine aw_getR fl_RX11_93 rfl d_X11_buses_54 ?_
    refine aw_ifnull (tgt := 72) d_X11_buses_57 (by decide) (fun c => ?_) (fun n c => ?_)
    · have h := h.1 c
      try rw [c]
      refine aw_iinc (i := 4) (v := v4 + 1) d_X11_buses_72 rfl rfl (by decide) ?_
      refine aw_goto (tgt := 26) d_X11_buses_75 (by decide) ?_
      exact AW.weak h (by exact ⟨rfl, ⟨rfl, ⟨rfl, ⟨rfl, ⟨rfl, trivial⟩⟩⟩⟩⟩)
    · obtain ⟨j10, e9, h⟩ := h.2 n c
      subst e9
      try rw [c]
      refine aw_aload (i := 5) d_X11_buses_60 rfl ?_
      refine aw_getI fl_RX11_227 rfl d_X11_buses_62 ?_
      refine aw_iload_n (i := 1) d_X11_buses_65 rfl rfl ?_
      refine aw_icmp_ne (tgt := 72) d_X11_buses_66 (by decide) (fun c => ?_) (fun c => ?_)
      · have h := h.1 c
        refine aw_iinc (i := 4) (v := v4 + 1) d_X11_buses_72 rfl rfl (by decide) ?_
        refine aw_goto (tgt := 26) d_X11_buses_75 (by decide) ?_
        exact AW.weak h (by exact ⟨rfl, ⟨rfl, ⟨rfl, ⟨rfl, ⟨rfl, trivial⟩⟩⟩⟩⟩)
      · have h := h.2 c
        refine aw_iinc (i := 3) (v := v3 + 1) d_X11_buses_69 rfl rfl (by decide) ?_
        refine aw_iinc (i := 4) (v := v4 + 1) d_X11_buses_72 rfl rfl (by decide) ?_
        refine aw_goto (tgt := 26) d_X11_buses_75 (by decide) ?_
        exact AW.weak h (by exact ⟨rfl, ⟨rfl, ⟨rfl, ⟨rfl, ⟨rfl, trivial⟩⟩⟩⟩⟩)
set_option maxRecDepth 20000 in
theorem vc_X11_ask {G : GG} {l : Launch} {d : Nat} {post : Option AVal → AS → Prop} {σ : AS} {kk nn : Nat} {a1 : Int32} {a2 : Int32} (hS : St σ) (h : AMet G l M_X6_find d 0 0 [xR (some (7, 0)), xI a1] σ (retR (fun r2 σ1 => (((r2 = none → post (some (xI (-1))) σ1)) ∧ ((∀ n : Nm, (r2 = some n → (∃ j3 : Nat, (n = (2, j3) ∧ (AMet G l M_X1_answer d 0 0 [xR (some (2, j3)), xI a2] σ1 (retI (fun x5 σ4 => post (some (xI x5)) σ4)))))))))))) : AW G l M_X11_ask (d + 1) post σ kk nn 0 [some (xR (some (12, 0))), some (xI a1), some (xI a2), none] [] := by
  refine aw_aload_n (i := 0) d_X11_ask_0 rfl rfl ?_
  refine aw_getRv fl_RX11_10 rfl (r := some (7, 0)) (St.get hS 12 6 0 7 0 (by decide)) d_X11_ask_1 ?_
  refine aw_iload_n (i := 1) d_X11_ask_4 rfl rfl ?_
  refine aw_callV0 (as := [xI a1]) mw_X6_find (by decide +kernel) ml_RX11_131 rfl d_X11_ask_5 rfl (Nat.le_of_ble_eq_true rfl) (AMet.mono h (aw_toR (fun r2 σ1 h => ?_)))
  refine aw_astore_n (i := 3) d_X11_ask_8 rfl (by decide) ?_
  refine aw_aload_n (i := 3) d_X11_ask_9 rfl rfl ?_
  refine aw_ifnonnull (tgt := 17) d_X11_ask_10 (by decide) (fun n c => ?_) (fun c => ?_)
  · obtain ⟨j3, e9, h⟩ := h.2 n c
    subst e9
    try rw [c]
    refine aw_aload_n (i := 3) d_X11_ask_17 rfl rfl ?_
    refine aw_iload_n (i := 2) d_X11_ask_18 rfl rfl ?_
    refine aw_callV0 (as := [xI a2]) mw_X1_answer (by decide +kernel) ml_RX11_230 rfl d_X11_ask_19 rfl (Nat.le_of_ble_eq_true rfl) (AMet.mono h (aw_toI (fun x5 σ4 h => ?_)))
    exact aw_ret d_X11_ask_22 rfl rfl h
  · have h := h.1 c
    try rw [c]
    refine aw_iconst (x := -1) d_X11_ask_13 (by decide) ?_
    refine aw_goto (tgt := 22) d_X11_ask_14 (by decide) ?_
    exact aw_ret d_X11_ask_22 rfl rfl h
set_option maxRecDepth 20000 in
theorem vc_X11_about {G : GG} {l : Launch} {d : Nat} {post : Option AVal → AS → Prop} {σ : AS} {kk nn : Nat} {a1 : Int32} {a2 : Int32} (h : AMet G l M_X11_find d 0 0 [xR (some (12, 0)), xI a1] σ (retR (fun r2 σ1 => (((r2 = none → post (some (xI (-1))) σ1)) ∧ ((∀ n : Nm, (r2 = some n → (∃ j3 : Nat, (n = (6, j3) ∧ (AMet G l M_X5_answer d 0 0 [xR (some (6, j3)), xI a2] σ1 (retI (fun x5 σ4 => post (some (xI x5)) σ4)))))))))))) : AW G l M_X11_about (d + 1) post σ kk nn 0 [some (xR (some (12, 0))), some (xI a1), some (xI a2), none] [] := by
  refine aw_aload_n (i := 0) d_X11_about_0 rfl rfl ?_
  refine aw_iload_n (i := 1) d_X11_about_1 rfl rfl ?_
  refine aw_callV0 (as := [xI a1]) mw_X11_find (by decide +kernel) ml_RX11_89 rfl d_X11_about_2 rfl (Nat.le_of_ble_eq_true rfl) (AMet.mono h (aw_toR (fun r2 σ1 h => ?_)))
  refine aw_astore_n (i := 3) d_X11_about_5 rfl (by decide) ?_
  refine aw_aload_n (i := 3) d_X11_about_6 rfl rfl ?_
  refine aw_ifnonnull (tgt := 14) d_X11_about_7 (by decide) (fun n c => ?_) (fun c => ?_)
  · obtain ⟨j3, e9, h⟩ := h.2 n c
    subst e9
    try rw [c]
    refine aw_aload_n (i := 3) d_X11_about_14 rfl rfl ?_
    refine aw_iload_n (i := 2) d_X11_about_15 rfl rfl ?_
    refine aw_callV0 (as := [xI a2]) mw_X5_answer (by decide +kernel) ml_RX11_231 rfl d_X11_about_16 rfl (Nat.le_of_ble_eq_true rfl) (AMet.mono h (aw_toI (fun x5 σ4 h => ?_)))
    exact aw_ret d_X11_about_19 rfl rfl h
  · have h := h.1 c
    try rw [c]
    refine aw_iconst (x := -1) d_X11_about_10 (by decide) ?_
    refine aw_goto (tgt := 19) d_X11_about_11 (by decide) ?_
    exact aw_ret d_X11_about_19 rfl rfl h
set_option maxRecDepth 20000 in
theorem vc_X11_pay {G : GG} {l : Launch} {d : Nat} {post : Option AVal → AS → Prop} {σ : AS} {kk nn : Nat} {a1 : Int32} {a2 : Int32} {a3 : Int32} (h : AW G l M_X11_pay (d + 1) post σ kk nn 6 [some (xR (some (12, 0))), some (xI a1), some (xI a2), some (xI a3), some (xL 0), none, some (xI 0), none] []) : AW G l M_X11_pay (d + 1) post σ kk nn 0 [some (xR (some (12, 0))), some (xI a1), some (xI a2), some (xI a3), none, none, none, none] [] := by
  refine aw_lconst (x := 0) d_X11_pay_0 (by decide) ?_
  refine aw_lstore (i := 4) d_X11_pay_1 (by decide) ?_
  refine aw_iconst (x := 0) d_X11_pay_3 (by decide) ?_
  refine aw_istore (i := 6) d_X11_pay_4 (by decide) ?_
  exact h
set_option maxRecDepth 20000 in
theorem vc_X11_pay_6 {G : GG} {l : Launch} {d : Nat} {post : Option AVal → AS → Prop} {σ : AS} {kk nn : Nat} {v1 : Int32} {v2 : Int32} {v3 : Int32} {v4 : Int64} {v6 : Int32} (hS : St σ) (h : AMet G l M_Jx4a65c_size_8abf5 d 0 0 [xR (some (0, 5))] σ (retI (fun x2 σ1 => (St σ1 ∧ (((x2 ≤ v6 → post (some (xL v4)) σ1)) ∧ ((¬ x2 ≤ v6 → AMet G l M_Jx4a65c_get_915e3 d 0 0 [xR (some (0, 5)), xI v6] σ1 (retR (fun r4 σ3 => (∃ j5 : Nat, (r4 = some (11, j5) ∧ ((∃ j6 : Nat, ((gR σ3 11 0 j5) = some (6, j6) ∧ (((¬ (gI σ3 6 0 j6) = v1 → AW G l M_X11_pay (d + 1) post σ3 kk nn 6 [some (xR (some (12, 0))), some (xI v1), some (xI v2), some (xI v3), some (xL v4), none, some (xI (v6 + 1)), none] [])) ∧ (((gI σ3 6 0 j6) = v1 → AMet G l M_X11_within d 0 0 [xI (gI σ3 11 1 j5), xI v2, xI v3] σ3 (retI (fun x8 σ7 => (((x8 = 0 → AW G l M_X11_pay (d + 1) post σ7 kk nn 6 [some (xR (some (12, 0))), some (xI v1), some (xI v2), some (xI v3), some (xL v4), none, some (xI (v6 + 1)), none] [])) ∧ ((¬ x8 = 0 → AMet G l M_X10_earned d 0 0 [xR (some (11, j5))] σ7 (retI (fun x10 σ9 => AW G l M_X11_pay (d + 1) post σ9 kk nn 6 [some (xR (some (12, 0))), some (xI v1), some (xI v2), some (xI v3), some (xL (v4 + x10.toInt64)), none, some (xI (v6 + 1)), none] [])))))))))))))))))))))))) : AW G l M_X11_pay (d + 1) post σ kk nn 6 [some (xR (some (12, 0))), some (xI v1), some (xI v2), some (xI v3), some (xL v4), none, some (xI v6), none] [] := by
  refine aw_iload (i := 6) d_X11_pay_6 rfl ?_
  refine aw_aload_n (i := 0) d_X11_pay_8 rfl rfl ?_
  refine aw_getRv fl_RX11_60 rfl (r := some (0, 5)) (St.get hS 12 8 0 0 5 (by decide)) d_X11_pay_9 ?_
  refine aw_callV0 (as := []) mw_Jx4a65c_size_8abf5 (by decide +kernel) ml_RX11_76 rfl d_X11_pay_12 rfl (Nat.le_of_ble_eq_true rfl) (AMet.mono h (aw_toI (fun x2 σ1 h => ?_)))
  obtain ⟨hS1, h⟩ := h
  refine aw_icmp_ge (tgt := 74) d_X11_pay_15 (by decide) (fun c => ?_) (fun c => ?_)
  · have h := h.1 c
    refine aw_lload (i := 4) d_X11_pay_74 rfl ?_
    exact aw_lret d_X11_pay_76 rfl h
  · have h := h.2 c
    refine aw_aload_n (i := 0) d_X11_pay_18 rfl rfl ?_
    refine aw_getRv fl_RX11_60 rfl (r := some (0, 5)) (St.get hS1 12 8 0 0 5 (by decide)) d_X11_pay_19 ?_
    refine aw_iload (i := 6) d_X11_pay_22 rfl ?_
    refine aw_callV0 (as := [xI v6]) mw_Jx4a65c_get_915e3 (by decide +kernel) ml_RX11_215 rfl d_X11_pay_24 rfl (Nat.le_of_ble_eq_true rfl) (AMet.mono h (aw_toR (fun r4 σ3 h => ?_)))
    obtain ⟨j5, ej5, h⟩ := h
    rw [ej5]
    refine aw_cast (c := 11) (by decide) cl_RX11_189 d_X11_pay_27 ?_
    refine aw_astore (i := 7) d_X11_pay_30 (by decide) ?_
    refine aw_aload (i := 7) d_X11_pay_32 rfl ?_
    refine aw_getR fl_RX11_232 rfl d_X11_pay_34 ?_
    obtain ⟨j6, ej6, h⟩ := h
    rw [ej6]
    refine aw_getI fl_RX11_236 rfl d_X11_pay_37 ?_
    refine aw_iload_n (i := 1) d_X11_pay_40 rfl rfl ?_
    refine aw_icmp_ne (tgt := 68) d_X11_pay_41 (by decide) (fun c => ?_) (fun c => ?_)
    · have h := h.1 c
      refine aw_iinc (i := 6) (v := v6 + 1) d_X11_pay_68 rfl rfl (by decide) ?_
      refine aw_goto (tgt := 6) d_X11_pay_71 (by decide) ?_
      exact AW.weak h (by exact ⟨rfl, ⟨rfl, ⟨rfl, ⟨rfl, ⟨rfl, ⟨rfl, trivial⟩⟩⟩⟩⟩⟩)
    · have h := h.2 c
      refine aw_aload (i := 7) d_X11_pay_44 rfl ?_
      refine aw_getI fl_RX11_237 rfl d_X11_pay_46 ?_
      refine aw_iload_n (i := 2) d_X11_pay_49 rfl rfl ?_
      refine aw_iload_n (i := 3) d_X11_pay_50 rfl rfl ?_
      refine aw_callS0 (as := [xI (gI σ3 11 1 j5), xI v2, xI v3]) mw_X11_within ml_RX11_71 rfl d_X11_pay_51 rfl (Nat.le_of_ble_eq_true rfl) (AMet.mono h (aw_toI (fun x8 σ7 h => ?_)))
      refine aw_if_eq (tgt := 68) d_X11_pay_54 (by decide) (fun c => ?_) (fun c => ?_)
      · have h := h.1 c
        refine aw_iinc (i := 6) (v := v6 + 1) d_X11_pay_68 rfl rfl (by decide) ?_
        refine aw_goto (tgt := 6) d_X11_pay_71 (by decide) ?_
        exact AW.weak h (by exact ⟨rfl, ⟨rfl, ⟨rfl, ⟨rfl, ⟨rfl, ⟨rfl, trivial⟩⟩⟩⟩⟩⟩)
      · have h := h.2 c
        refine aw_lload (i := 4) d_X11_pay_57 rfl ?_
        refine aw_aload (i := 7) d_X11_pay_59 rfl ?_
        refine aw_callV0 (as := []) mw_X10_earned (by decide +kernel) ml_RX11_238 rfl d_X11_pay_61 rfl (Nat.le_of_ble_eq_true rfl) (AMet.mono h (aw_toI (fun x10 σ9 h => ?_)))
        refine aw_i2l d_X11_pay_64 rfl ?_
        refine aw_ladd d_X11_pay_65 ?_
        refine aw_lstore (i := 4) d_X11_pay_66 (by decide) ?_
        refine aw_iinc (i := 6) (v := v6 + 1) d_X11_pay_68 rfl rfl (by decide) ?_
        refine aw_goto (tgt := 6) d_X11_pay_71 (by decide) ?_
        exact AW.weak h (by exact ⟨rfl, ⟨rfl, ⟨rfl, ⟨rfl, ⟨rfl, ⟨rfl, trivial⟩⟩⟩⟩⟩⟩)
set_option maxRecDepth 20000 in
theorem vc_X11_count {G : GG} {l : Launch} {d : Nat} {post : Option AVal → AS → Prop} {σ : AS} {kk nn : Nat} {a1 : Int32} (hS : St σ) (h : (((a1 = 0 → AMet G l M_Jx4a65c_size_8abf5 d 0 0 [xR (some (0, 0))] σ (retI (fun x2 σ1 => post (some (xI x2)) σ1)))) ∧ ((a1 = 1 → (∃ j3 : Nat, ((gR σ 7 0 0) = some (0, j3) ∧ (AMet G l M_Jx4a65c_size_8abf5 d 0 0 [xR (some (0, j3))] σ (retI (fun x5 σ4 => post (some (xI x5)) σ4))))))) ∧ ((a1 = 2 → AMet G l M_Jx4a65c_size_8abf5 d 0 0 [xR (some (0, 1))] σ (retI (fun x7 σ6 => post (some (xI x7)) σ6)))) ∧ ((a1 = 3 → AMet G l M_X4_size d 0 0 [xR (some (5, 0))] σ (retI (fun x9 σ8 => post (some (xI x9)) σ8)))) ∧ ((a1 = 4 → post (some (xI (gI σ 12 10 0))) σ)) ∧ ((a1 = 5 → AMet G l M_X6_size d 0 0 [xR (some (7, 0))] σ (retI (fun x11 σ10 => post (some (xI x11)) σ10)))) ∧ ((a1 = 6 → post (some (xI (gI σ 8 1 0))) σ)) ∧ ((a1 = 7 → AMet G l M_Jx4a65c_size_8abf5 d 0 0 [xR (some (0, 5))] σ (retI (fun x13 σ12 => post (some (xI x13)) σ12)))) ∧ (((a1.toInt < 0 ∨ 7 < a1.toInt) → post (some (xI (-1))) σ)))) : AW G l M_X11_count (d + 1) post σ kk nn 0 [some (xR (some (12, 0))), some (xI a1)] [] := by
  refine aw_iload_n (i := 1) d_X11_count_0 rfl rfl ?_
  by_cases c0 : a1 = 0
  · have c := c0
    have h := h.1 c
    refine aw_sw (k := 0) (off := 47) (tgt := 48) d_X11_count_1 c (by decide) (by decide) (by decide) (by decide) ?_
    refine aw_aload_n (i := 0) d_X11_count_48 rfl rfl ?_
    refine aw_getRv fl_RX11_20 rfl (r := some (0, 0)) (St.get hS 12 0 0 0 0 (by decide)) d_X11_count_49 ?_
    refine aw_callV0 (as := []) mw_Jx4a65c_size_8abf5 (by decide +kernel) ml_RX11_76 rfl d_X11_count_52 rfl (Nat.le_of_ble_eq_true rfl) (AMet.mono h (aw_toI (fun x2 σ1 h => ?_)))
    exact aw_ret d_X11_count_55 rfl rfl h
  by_cases c1 : a1 = 1
  · have c := c1
    have h := h.2.1 c
    refine aw_sw (k := 1) (off := 55) (tgt := 56) d_X11_count_1 c (by decide) (by decide) (by decide) (by decide) ?_
    refine aw_aload_n (i := 0) d_X11_count_56 rfl rfl ?_
    refine aw_getRv fl_RX11_10 rfl (r := some (7, 0)) (St.get hS 12 6 0 7 0 (by decide)) d_X11_count_57 ?_
    refine aw_getR fl_RX11_147 rfl d_X11_count_60 ?_
    obtain ⟨j3, ej3, h⟩ := h
    rw [ej3]
    refine aw_callV0 (as := []) mw_Jx4a65c_size_8abf5 (by decide +kernel) ml_RX11_76 rfl d_X11_count_63 rfl (Nat.le_of_ble_eq_true rfl) (AMet.mono h (aw_toI (fun x5 σ4 h => ?_)))
    exact aw_ret d_X11_count_66 rfl rfl h
  by_cases c2 : a1 = 2
  · have c := c2
    have h := h.2.2.1 c
    refine aw_sw (k := 2) (off := 66) (tgt := 67) d_X11_count_1 c (by decide) (by decide) (by decide) (by decide) ?_
    refine aw_aload_n (i := 0) d_X11_count_67 rfl rfl ?_
    refine aw_getRv fl_RX11_43 rfl (r := some (0, 1)) (St.get hS 12 4 0 0 1 (by decide)) d_X11_count_68 ?_
    refine aw_callV0 (as := []) mw_Jx4a65c_size_8abf5 (by decide +kernel) ml_RX11_76 rfl d_X11_count_71 rfl (Nat.le_of_ble_eq_true rfl) (AMet.mono h (aw_toI (fun x7 σ6 h => ?_)))
    exact aw_ret d_X11_count_74 rfl rfl h
  by_cases c3 : a1 = 3
  · have c := c3
    have h := h.2.2.2.1 c
    refine aw_sw (k := 3) (off := 74) (tgt := 75) d_X11_count_1 c (by decide) (by decide) (by decide) (by decide) ?_
    refine aw_aload_n (i := 0) d_X11_count_75 rfl rfl ?_
    refine aw_getRv fl_RX11_49 rfl (r := some (5, 0)) (St.get hS 12 5 0 5 0 (by decide)) d_X11_count_76 ?_
    refine aw_callV0 (as := []) mw_X4_size (by decide +kernel) ml_RX11_203 rfl d_X11_count_79 rfl (Nat.le_of_ble_eq_true rfl) (AMet.mono h (aw_toI (fun x9 σ8 h => ?_)))
    exact aw_ret d_X11_count_82 rfl rfl h
  by_cases c4 : a1 = 4
  · have c := c4
    have h := h.2.2.2.2.1 c
    refine aw_sw (k := 4) (off := 82) (tgt := 83) d_X11_count_1 c (by decide) (by decide) (by decide) (by decide) ?_
    refine aw_aload_n (i := 0) d_X11_count_83 rfl rfl ?_
    refine aw_getI fl_RX11_140 rfl d_X11_count_84 ?_
    exact aw_ret d_X11_count_87 rfl rfl h
  by_cases c5 : a1 = 5
  · have c := c5
    have h := h.2.2.2.2.2.1 c
    refine aw_sw (k := 5) (off := 87) (tgt := 88) d_X11_count_1 c (by decide) (by decide) (by decide) (by decide) ?_
    refine aw_aload_n (i := 0) d_X11_count_88 rfl rfl ?_
    refine aw_getRv fl_RX11_10 rfl (r := some (7, 0)) (St.get hS 12 6 0 7 0 (by decide)) d_X11_count_89 ?_
    refine aw_callV0 (as := []) mw_X6_size (by decide +kernel) ml_RX11_157 rfl d_X11_count_92 rfl (Nat.le_of_ble_eq_true rfl) (AMet.mono h (aw_toI (fun x11 σ10 h => ?_)))
    exact aw_ret d_X11_count_95 rfl rfl h
  by_cases c6 : a1 = 6
  · have c := c6
    have h := h.2.2.2.2.2.2.1 c
    refine aw_sw (k := 6) (off := 95) (tgt := 96) d_X11_count_1 c (by decide) (by decide) (by decide) (by decide) ?_
    refine aw_aload_n (i := 0) d_X11_count_96 rfl rfl ?_
    refine aw_getRv fl_RX11_39 rfl (r := some (8, 0)) (St.get hS 12 1 0 8 0 (by decide)) d_X11_count_97 ?_
    refine aw_getI fl_RX11_101 rfl d_X11_count_100 ?_
    exact aw_ret d_X11_count_103 rfl rfl h
  by_cases c7 : a1 = 7
  · have c := c7
    have h := h.2.2.2.2.2.2.2.1 c
    refine aw_sw (k := 7) (off := 103) (tgt := 104) d_X11_count_1 c (by decide) (by decide) (by decide) (by decide) ?_
    refine aw_aload_n (i := 0) d_X11_count_104 rfl rfl ?_
    refine aw_getRv fl_RX11_60 rfl (r := some (0, 5)) (St.get hS 12 8 0 0 5 (by decide)) d_X11_count_105 ?_
    refine aw_callV0 (as := []) mw_Jx4a65c_size_8abf5 (by decide +kernel) ml_RX11_76 rfl d_X11_count_108 rfl (Nat.le_of_ble_eq_true rfl) (AMet.mono h (aw_toI (fun x13 σ12 h => ?_)))
    exact aw_ret d_X11_count_111 rfl rfl h
  have c : a1.toInt < 0 ∨ 7 < a1.toInt := by
    have q0 : ¬ a1.toInt = 0 := fun e => c0 (i32_eq (e.trans (by decide)))
    have q1 : ¬ a1.toInt = 1 := fun e => c1 (i32_eq (e.trans (by decide)))
    have q2 : ¬ a1.toInt = 2 := fun e => c2 (i32_eq (e.trans (by decide)))
    have q3 : ¬ a1.toInt = 3 := fun e => c3 (i32_eq (e.trans (by decide)))
    have q4 : ¬ a1.toInt = 4 := fun e => c4 (i32_eq (e.trans (by decide)))
    have q5 : ¬ a1.toInt = 5 := fun e => c5 (i32_eq (e.trans (by decide)))
    have q6 : ¬ a1.toInt = 6 := fun e => c6 (i32_eq (e.trans (by decide)))
    have q7 : ¬ a1.toInt = 7 := fun e => c7 (i32_eq (e.trans (by decide)))
    omega
  have h := h.2.2.2.2.2.2.2.2 c
  refine aw_switchOut (tgt := 112) d_X11_count_1 c (by decide) ?_
  refine aw_iconst (x := -1) d_X11_count_112 (by decide) ?_
  exact aw_ret d_X11_count_113 rfl rfl h
set_option maxRecDepth 20000 in
theorem vc_X11_within {G : GG} {l : Launch} {d : Nat} {post : Option AVal → AS → Prop} {σ : AS} {kk nn : Nat} {a1 : Int32} {a2 : Int32} {a3 : Int32} (h : (((a1 < a2 → post (some (xI 0)) σ)) ∧ ((¬ a1 < a2 → (((a3 < a1 → post (some (xI 0)) σ)) ∧ ((¬ a3 < a1 → post (some (xI 1)) σ))))))) : AW G l M_X11_within d post σ kk nn 0 [some (xI a1), some (xI a2), some (xI a3)] [] := by
  refine aw_iload_n (i := 0) d_X11_within_0 rfl rfl ?_
  refine aw_iload_n (i := 1) d_X11_within_1 rfl rfl ?_
  refine aw_icmp_lt (tgt := 14) d_X11_within_2 (by decide) (fun c => ?_) (fun c => ?_)
  · have h := h.1 c
    refine aw_iconst (x := 0) d_X11_within_14 (by decide) ?_
    exact aw_ret d_X11_within_15 rfl (by decide) h
  · have h := h.2 c
    refine aw_iload_n (i := 0) d_X11_within_5 rfl rfl ?_
    refine aw_iload_n (i := 2) d_X11_within_6 rfl rfl ?_
    refine aw_icmp_gt (tgt := 14) d_X11_within_7 (by decide) (fun c => ?_) (fun c => ?_)
    · have h := h.1 c
      refine aw_iconst (x := 0) d_X11_within_14 (by decide) ?_
      exact aw_ret d_X11_within_15 rfl (by decide) h
    · have h := h.2 c
      refine aw_iconst (x := 1) d_X11_within_10 (by decide) ?_
      refine aw_goto (tgt := 15) d_X11_within_11 (by decide) ?_
      exact aw_ret d_X11_within_15 rfl (by decide) h
set_option maxRecDepth 20000 in
theorem vc_X11_isScene {G : GG} {l : Launch} {d : Nat} {post : Option AVal → AS → Prop} {σ : AS} {kk nn : Nat} {a1 : Int32} (h : AMet G l M_X11_within d 0 0 [xI a1, xI 0, xI 19] σ (retI (fun x2 σ1 => (narrow .boolean (.int x2) = .int x2 ∧ post (some (xI x2)) σ1)))) : AW G l M_X11_isScene (d + 1) post σ kk nn 0 [some (xI a1)] [] := by
  refine aw_iload_n (i := 0) d_X11_isScene_0 rfl rfl ?_
  refine aw_iconst (x := 0) d_X11_isScene_1 (by decide) ?_
  refine aw_bipush (x := 19) d_X11_isScene_2 (by decide) ?_
  refine aw_callS0 (as := [xI a1, xI 0, xI 19]) mw_X11_within ml_RX11_71 rfl d_X11_isScene_4 rfl (Nat.le_of_ble_eq_true rfl) (AMet.mono h (aw_toI (fun x2 σ1 h => ?_)))
  exact aw_ret d_X11_isScene_7 rfl h.1 h.2
set_option maxRecDepth 20000 in
theorem vc_X11_find {G : GG} {l : Launch} {d : Nat} {post : Option AVal → AS → Prop} {σ : AS} {kk nn : Nat} {a1 : Int32} (hS : St σ) (h : (((a1 < 0 → post (some (xR none)) σ)) ∧ ((¬ a1 < 0 → AMet G l M_Jx4a65c_size_8abf5 d 0 0 [xR (some (0, 0))] σ (retI (fun x2 σ1 => (St σ1 ∧ (((x2 ≤ a1 → post (some (xR none)) σ1)) ∧ ((¬ x2 ≤ a1 → AMet G l M_Jx4a65c_get_915e3 d 0 0 [xR (some (0, 0)), xI a1] σ1 (retR (fun r4 σ3 => (∃ j5 : Nat, (r4 = some (6, j5) ∧ post (some (xR (some (6, j5)))) σ3)))))))))))))) : AW G l M_X11_find (d + 1) post σ kk nn 0 [some (xR (some (12, 0))), some (xI a1)] [] := by
  refine aw_iload_n (i := 1) d_X11_find_0 rfl rfl ?_
  refine aw_if_lt (tgt := 29) d_X11_find_1 (by decide) (fun c => ?_) (fun c => ?_)
  · have h := h.1 c
    refine aw_null d_X11_find_29 ?_
    exact aw_aret d_X11_find_30 rfl (Or.inl ⟨_, rfl⟩) h
  · have h := h.2 c
    refine aw_iload_n (i := 1) d_X11_find_4 rfl rfl ?_
    refine aw_aload_n (i := 0) d_X11_find_5 rfl rfl ?_
    refine aw_getRv fl_RX11_20 rfl (r := some (0, 0)) (St.get hS 12 0 0 0 0 (by decide)) d_X11_find_6 ?_
    refine aw_callV0 (as := []) mw_Jx4a65c_size_8abf5 (by decide +kernel) ml_RX11_76 rfl d_X11_find_9 rfl (Nat.le_of_ble_eq_true rfl) (AMet.mono h (aw_toI (fun x2 σ1 h => ?_)))
    obtain ⟨hS1, h⟩ := h
    refine aw_icmp_ge (tgt := 29) d_X11_find_12 (by decide) (fun c => ?_) (fun c => ?_)
    · have h := h.1 c
      refine aw_null d_X11_find_29 ?_
      exact aw_aret d_X11_find_30 rfl (Or.inl ⟨_, rfl⟩) h
    · have h := h.2 c
      refine aw_aload_n (i := 0) d_X11_find_15 rfl rfl ?_
      refine aw_getRv fl_RX11_20 rfl (r := some (0, 0)) (St.get hS1 12 0 0 0 0 (by decide)) d_X11_find_16 ?_
      refine aw_iload_n (i := 1) d_X11_find_19 rfl rfl ?_
      refine aw_callV0 (as := [xI a1]) mw_Jx4a65c_get_915e3 (by decide +kernel) ml_RX11_215 rfl d_X11_find_20 rfl (Nat.le_of_ble_eq_true rfl) (AMet.mono h (aw_toR (fun r4 σ3 h => ?_)))
      obtain ⟨j5, ej5, h⟩ := h
      rw [ej5]
      refine aw_cast (c := 6) (by decide) cl_RX11_80 d_X11_find_23 ?_
      refine aw_goto (tgt := 30) d_X11_find_26 (by decide) ?_
      exact aw_aret d_X11_find_30 rfl (Or.inl ⟨_, rfl⟩) h
set_option maxRecDepth 20000 in
theorem vc_X11_findRecord {G : GG} {l : Launch} {d : Nat} {post : Option AVal → AS → Prop} {σ : AS} {kk nn : Nat} {a1 : Int32} {a2 : Int32} (h : AW G l M_X11_findRecord (d + 1) post σ kk nn 2 [some (xR (some (12, 0))), some (xI a1), some (xI a2), some (xI 0), none] []) : AW G l M_X11_findRecord (d + 1) post σ kk nn 0 [some (xR (some (12, 0))), some (xI a1), some (xI a2), none, none] [] := by
  refine aw_iconst (x := 0) d_X11_findRecord_0 (by decide) ?_
  refine aw_istore_n (i := 3) d_X11_findRecord_1 rfl (by decide) ?_
  exact h
set_option maxRecDepth 20000 in
theorem vc_X11_findRecord_2 {G : GG} {l : Launch} {d : Nat} {post : Option AVal → AS → Prop} {σ : AS} {kk nn : Nat} {v1 : Int32} {v2 : Int32} {v3 : Int32} (hS : St σ) (h : AMet G l M_Jx4a65c_size_8abf5 d 0 0 [xR (some (0, 5))] σ (retI (fun x2 σ1 => (St σ1 ∧ (((x2 ≤ v3 → post (some (xR none)) σ1)) ∧ ((¬ x2 ≤ v3 → AMet G l M_Jx4a65c_get_915e3 d 0 0 [xR (some (0, 5)), xI v3] σ1 (retR (fun r4 σ3 => (∃ j5 : Nat, (r4 = some (11, j5) ∧ ((∃ j6 : Nat, ((gR σ3 11 0 j5) = some (6, j6) ∧ (((¬ (gI σ3 6 0 j6) = v1 → AW G l M_X11_findRecord (d + 1) post σ3 kk nn 2 [some (xR (some (12, 0))), some (xI v1), some (xI v2), some (xI (v3 + 1)), none] [])) ∧ (((gI σ3 6 0 j6) = v1 → (((¬ (gI σ3 11 1 j5) = v2 → AW G l M_X11_findRecord (d + 1) post σ3 kk nn 2 [some (xR (some (12, 0))), some (xI v1), some (xI v2), some (xI (v3 + 1)), none] [])) ∧ (((gI σ3 11 1 j5) = v2 → post (some (xR (some (11, j5)))) σ3)))))))))))))))))))) : AW G l M_X11_findRecord (d + 1) post σ kk nn 2 [some (xR (some (12, 0))), some (xI v1), some (xI v2), some (xI v3), none] [] := by
  refine aw_iload_n (i := 3) d_X11_findRecord_2 rfl rfl ?_
  refine aw_aload_n (i := 0) d_X11_findRecord_3 rfl rfl ?_
  refine aw_getRv fl_RX11_60 rfl (r := some (0, 5)) (St.get hS 12 8 0 0 5 (by decide)) d_X11_findRecord_4 ?_
  refine aw_callV0 (as := []) mw_Jx4a65c_size_8abf5 (by decide +kernel) ml_RX11_76 rfl d_X11_findRecord_7 rfl (Nat.le_of_ble_eq_true rfl) (AMet.mono h (aw_toI (fun x2 σ1 h => ?_)))
  obtain ⟨hS1, h⟩ := h
  refine aw_icmp_ge (tgt := 56) d_X11_findRecord_10 (by decide) (fun c => ?_) (fun c => ?_)
  · have h := h.1 c
    refine aw_null d_X11_findRecord_56 ?_
    exact aw_aret d_X11_findRecord_57 rfl (Or.inl ⟨_, rfl⟩) h
  · have h := h.2 c
    refine aw_aload_n (i := 0) d_X11_findRecord_13 rfl rfl ?_
    refine aw_getRv fl_RX11_60 rfl (r := some (0, 5)) (St.get hS1 12 8 0 0 5 (by decide)) d_X11_findRecord_14 ?_
    refine aw_iload_n (i := 3) d_X11_findRecord_17 rfl rfl ?_
    refine aw_callV0 (as := [xI v3]) mw_Jx4a65c_get_915e3 (by decide +kernel) ml_RX11_215 rfl d_X11_findRecord_18 rfl (Nat.le_of_ble_eq_true rfl) (AMet.mono h (aw_toR (fun r4 σ3 h => ?_)))
    obtain ⟨j5, ej5, h⟩ := h
    rw [ej5]
    refine aw_cast (c := 11) (by decide) cl_RX11_189 d_X11_findRecord_21 ?_
    refine aw_astore (i := 4) d_X11_findRecord_24 (by decide) ?_
    refine aw_aload (i := 4) d_X11_findRecord_26 rfl ?_
    refine aw_getR fl_RX11_232 rfl d_X11_findRecord_28 ?_
    obtain ⟨j6, ej6, h⟩ := h
    rw [ej6]
    refine aw_getI fl_RX11_236 rfl d_X11_findRecord_31 ?_
    refine aw_iload_n (i := 1) d_X11_findRecord_34 rfl rfl ?_
    refine aw_icmp_ne (tgt := 50) d_X11_findRecord_35 (by decide) (fun c => ?_) (fun c => ?_)
    · have h := h.1 c
      refine aw_iinc (i := 3) (v := v3 + 1) d_X11_findRecord_50 rfl rfl (by decide) ?_
      refine aw_goto (tgt := 2) d_X11_findRecord_53 (by decide) ?_
      exact AW.weak h (by exact ⟨rfl, ⟨rfl, ⟨rfl, ⟨rfl, trivial⟩⟩⟩⟩)
    · have h := h.2 c
      refine aw_aload (i := 4) d_X11_findRecord_38 rfl ?_
      refine aw_getI fl_RX11_237 rfl d_X11_findRecord_40 ?_
      refine aw_iload_n (i := 2) d_X11_findRecord_43 rfl rfl ?_
      refine aw_icmp_ne (tgt := 50) d_X11_findRecord_44 (by decide) (fun c => ?_) (fun c => ?_)
      · have h := h.1 c
        refine aw_iinc (i := 3) (v := v3 + 1) d_X11_findRecord_50 rfl rfl (by decide) ?_
        refine aw_goto (tgt := 2) d_X11_findRecord_53 (by decide) ?_
        exact AW.weak h (by exact ⟨rfl, ⟨rfl, ⟨rfl, ⟨rfl, trivial⟩⟩⟩⟩)
      · have h := h.2 c
        refine aw_aload (i := 4) d_X11_findRecord_47 rfl ?_
        exact aw_aret d_X11_findRecord_49 rfl (Or.inl ⟨_, rfl⟩) h
set_option maxRecDepth 20000 in
theorem vc_X11_addBytes {G : GG} {l : Launch} {d : Nat} {post : Option AVal → AS → Prop} {σ : AS} {kk nn : Nat} {a1 : Int32} (h : AW G l M_X11_addBytes (d + 1) post σ kk nn 3 [some (xR (some (12, 0))), some (xI a1), some (xI 24)] []) : AW G l M_X11_addBytes (d + 1) post σ kk nn 0 [some (xR (some (12, 0))), some (xI a1), none] [] := by
  refine aw_bipush (x := 24) d_X11_addBytes_0 (by decide) ?_
  refine aw_istore_n (i := 2) d_X11_addBytes_2 rfl (by decide) ?_
  exact h
set_option maxRecDepth 20000 in
theorem vc_X11_addBytes_3 {G : GG} {l : Launch} {d : Nat} {post : Option AVal → AS → Prop} {σ : AS} {kk nn : Nat} {v1 : Int32} {v2 : Int32} (hS : St σ) (h : (((v2 < 0 → post none σ)) ∧ ((¬ v2 < 0 → AMet G l M_X7_add d 0 0 [xR (some (8, 0)), xI (((v1.toUInt32 >>> (v2.toUInt32 &&& Int32.toUInt32 31)).toInt32) &&& 255)] σ (retV (fun σ1 => AW G l M_X11_addBytes (d + 1) post σ1 kk nn 3 [some (xR (some (12, 0))), some (xI v1), some (xI (v2 + (-8)))] [])))))) : AW G l M_X11_addBytes (d + 1) post σ kk nn 3 [some (xR (some (12, 0))), some (xI v1), some (xI v2)] [] := by
  refine aw_iload_n (i := 2) d_X11_addBytes_3 rfl rfl ?_
  refine aw_if_lt (tgt := 27) d_X11_addBytes_4 (by decide) (fun c => ?_) (fun c => ?_)
  · have h := h.1 c
    exact aw_vret d_X11_addBytes_27 rfl h
  · have h := h.2 c
    refine aw_aload_n (i := 0) d_X11_addBytes_7 rfl rfl ?_
    refine aw_getRv fl_RX11_39 rfl (r := some (8, 0)) (St.get hS 12 1 0 8 0 (by decide)) d_X11_addBytes_8 ?_
    refine aw_iload_n (i := 1) d_X11_addBytes_11 rfl rfl ?_
    refine aw_iload_n (i := 2) d_X11_addBytes_12 rfl rfl ?_
    refine aw_iushr d_X11_addBytes_13 rfl ?_
    refine aw_sipush (x := 255) d_X11_addBytes_14 (by decide) ?_
    refine aw_iand d_X11_addBytes_17 ?_
    refine aw_callV0 (as := [xI (((v1.toUInt32 >>> (v2.toUInt32 &&& Int32.toUInt32 31)).toInt32) &&& 255)]) mw_X7_add (by decide +kernel) ml_RX11_225 rfl d_X11_addBytes_18 rfl (Nat.le_of_ble_eq_true rfl) (AMet.mono h (aw_toV (fun σ1 h => ?_)))
    refine aw_iinc (i := 2) (v := v2 + (-8)) d_X11_addBytes_21 rfl rfl (by decide) ?_
    refine aw_goto (tgt := 3) d_X11_addBytes_24 (by decide) ?_
    exact h
set_option maxRecDepth 20000 in
theorem vc_X11_sendAll {G : GG} {l : Launch} {d : Nat} {post : Option AVal → AS → Prop} {σ : AS} {kk nn : Nat}  (hS : St σ) (h : AMet G l M_Jx4a65c_isEmpty_aae02 d 0 0 [xR (some (0, 1))] σ (retI (fun x2 σ1 => (St σ1 ∧ (((x2 = 0 → AMet G l M_Jx4a65c_size_8abf5 d 0 0 [xR (some (0, 1))] σ1 (retI (fun x4 σ3 => AMet G l M_Jx4a65c_get_915e3 d 0 0 [xR (some (0, 1)), xI (x4 - 1)] σ3 (retR (fun r6 σ5 => (∃ j7 : Nat, (r6 = some (1, j7) ∧ AW G l M_X11_sendAll (d + 1) post σ5 kk nn 38 [some (xR (some (12, 0))), some (xR (some (1, j7))), some (xI (-1)), some (xI 0), none] [])))))))) ∧ ((¬ x2 = 0 → AW G l M_X11_sendAll (d + 1) post σ1 kk nn 38 [some (xR (some (12, 0))), some (xR none), some (xI (-1)), some (xI 0), none] []))))))) : AW G l M_X11_sendAll (d + 1) post σ kk nn 0 [some (xR (some (12, 0))), none, none, none, none] [] := by
  refine aw_aload_n (i := 0) d_X11_sendAll_0 rfl rfl ?_
  refine aw_getRv fl_RX11_43 rfl (r := some (0, 1)) (St.get hS 12 4 0 0 1 (by decide)) d_X11_sendAll_1 ?_
  refine aw_callV0 (as := []) mw_Jx4a65c_isEmpty_aae02 (by decide +kernel) ml_RX11_150 rfl d_X11_sendAll_4 rfl (Nat.le_of_ble_eq_true rfl) (AMet.mono h (aw_toI (fun x2 σ1 h => ?_)))
  obtain ⟨hS1, h⟩ := h
  refine aw_if_eq (tgt := 14) d_X11_sendAll_7 (by decide) (fun c => ?_) (fun c => ?_)
  · have h := h.1 c
    refine aw_aload_n (i := 0) d_X11_sendAll_14 rfl rfl ?_
    refine aw_getRv fl_RX11_43 rfl (r := some (0, 1)) (St.get hS1 12 4 0 0 1 (by decide)) d_X11_sendAll_15 ?_
    refine aw_aload_n (i := 0) d_X11_sendAll_18 rfl rfl ?_
    refine aw_getRv fl_RX11_43 rfl (r := some (0, 1)) (St.get hS1 12 4 0 0 1 (by decide)) d_X11_sendAll_19 ?_
    refine aw_callV0 (as := []) mw_Jx4a65c_size_8abf5 (by decide +kernel) ml_RX11_76 rfl d_X11_sendAll_22 rfl (Nat.le_of_ble_eq_true rfl) (AMet.mono h (aw_toI (fun x4 σ3 h => ?_)))
    refine aw_iconst (x := 1) d_X11_sendAll_25 (by decide) ?_
    refine aw_isub d_X11_sendAll_26 ?_
    refine aw_callV0 (as := [xI (x4 - 1)]) mw_Jx4a65c_get_915e3 (by decide +kernel) ml_RX11_215 rfl d_X11_sendAll_27 rfl (Nat.le_of_ble_eq_true rfl) (AMet.mono h (aw_toR (fun r6 σ5 h => ?_)))
    obtain ⟨j7, ej7, h⟩ := h
    rw [ej7]
    refine aw_cast (c := 1) (by decide) cl_RX11_118 d_X11_sendAll_30 ?_
    refine aw_astore_n (i := 1) d_X11_sendAll_33 rfl (by decide) ?_
    refine aw_iconst (x := -1) d_X11_sendAll_34 (by decide) ?_
    refine aw_istore_n (i := 2) d_X11_sendAll_35 rfl (by decide) ?_
    refine aw_iconst (x := 0) d_X11_sendAll_36 (by decide) ?_
    refine aw_istore_n (i := 3) d_X11_sendAll_37 rfl (by decide) ?_
    exact h
  · have h := h.2 c
    refine aw_null d_X11_sendAll_10 ?_
    refine aw_goto (tgt := 33) d_X11_sendAll_11 (by decide) ?_
    refine aw_astore_n (i := 1) d_X11_sendAll_33 rfl (by decide) ?_
    refine aw_iconst (x := -1) d_X11_sendAll_34 (by decide) ?_
    refine aw_istore_n (i := 2) d_X11_sendAll_35 rfl (by decide) ?_
    refine aw_iconst (x := 0) d_X11_sendAll_36 (by decide) ?_
    refine aw_istore_n (i := 3) d_X11_sendAll_37 rfl (by decide) ?_
    exact h
set_option maxRecDepth 20000 in
theorem vc_X11_sendAll_38 {G : GG} {l : Launch} {d : Nat} {post : Option AVal → AS → Prop} {σ : AS} {kk nn : Nat} {v1 : Option Nm} {v2 : Int32} {v3 : Int32} (hS : St σ) (h : AMet G l M_Jx4a65c_size_8abf5 d 0 0 [xR (some (0, 3))] σ (retI (fun x9 σ8 => (St σ8 ∧ (((x9 ≤ v3 → post (some (xI v2)) σ8)) ∧ ((¬ x9 ≤ v3 → AMet G l M_Jx4a65c_get_915e3 d 0 0 [xR (some (0, 3)), xI v3] σ8 (retR (fun r11 σ10 => (∃ j12 : Nat, (r11 = some (11, j12) ∧ (AMet G l M_X10_send d 0 0 [xR (some (11, j12)), xR v1] σ10 (retV (fun σ13 => (St σ13 ∧ (AMet G l M_X4_add d 0 0 [xR (some (5, 0)), xR (gR σ13 11 0 j12), xI (gI σ13 11 3 j12)] σ13 (retI (fun x15 σ14 => (St σ14 ∧ ((∃ mc19 ms20 kk17 nn18 : Nat, (kk = kk17 + mc19 ∧ nn = nn18 + ms20 ∧ (AMet G l M_Jx4a65c_add_9ea2d d mc19 ms20 [xR (some (0, 5)), xR (some (11, j12))] σ14 (retI (fun x21 σ16 => AW G l M_X11_sendAll (d + 1) post σ16 kk17 nn18 38 [some (xR (some (12, 0))), some (xR v1), some (xI (if v2 < (gI σ16 11 7 j12) then (gI σ16 11 7 j12) else v2)), some (xI (v3 + 1)), none] []))))))))))))))))))))))))) : AW G l M_X11_sendAll (d + 1) post σ kk nn 38 [some (xR (some (12, 0))), some (xR v1), some (xI v2), some (xI v3), none] [] := by
  refine aw_iload_n (i := 3) d_X11_sendAll_38 rfl rfl ?_
  refine aw_aload_n (i := 0) d_X11_sendAll_39 rfl rfl ?_
  refine aw_getRv fl_RX11_56 rfl (r := some (4, 0)) (St.get hS 12 7 0 4 0 (by decide)) d_X11_sendAll_40 ?_
  refine aw_getRv fl_RX11_241 rfl (r := some (0, 3)) (St.get hS 4 0 0 0 3 (by decide)) d_X11_sendAll_43 ?_
  refine aw_callV0 (as := []) mw_Jx4a65c_size_8abf5 (by decide +kernel) ml_RX11_76 rfl d_X11_sendAll_46 rfl (Nat.le_of_ble_eq_true rfl) (AMet.mono h (aw_toI (fun x9 σ8 h => ?_)))
  obtain ⟨hS8, h⟩ := h
  refine aw_icmp_ge (tgt := 118) d_X11_sendAll_49 (by decide) (fun c => ?_) (fun c => ?_)
  · have h := h.1 c
    refine aw_iload_n (i := 2) d_X11_sendAll_118 rfl rfl ?_
    exact aw_ret d_X11_sendAll_119 rfl rfl h
  · have h := h.2 c
    refine aw_aload_n (i := 0) d_X11_sendAll_52 rfl rfl ?_
    refine aw_getRv fl_RX11_56 rfl (r := some (4, 0)) (St.get hS8 12 7 0 4 0 (by decide)) d_X11_sendAll_53 ?_
    refine aw_getRv fl_RX11_241 rfl (r := some (0, 3)) (St.get hS8 4 0 0 0 3 (by decide)) d_X11_sendAll_56 ?_
    refine aw_iload_n (i := 3) d_X11_sendAll_59 rfl rfl ?_
    refine aw_callV0 (as := [xI v3]) mw_Jx4a65c_get_915e3 (by decide +kernel) ml_RX11_215 rfl d_X11_sendAll_60 rfl (Nat.le_of_ble_eq_true rfl) (AMet.mono h (aw_toR (fun r11 σ10 h => ?_)))
    obtain ⟨j12, ej12, h⟩ := h
    rw [ej12]
    refine aw_cast (c := 11) (by decide) cl_RX11_189 d_X11_sendAll_63 ?_
    refine aw_astore (i := 4) d_X11_sendAll_66 (by decide) ?_
    refine aw_aload (i := 4) d_X11_sendAll_68 rfl ?_
    refine aw_aload_n (i := 1) d_X11_sendAll_70 rfl rfl ?_
    refine aw_callV0 (as := [xR v1]) mw_X10_send (by decide +kernel) ml_RX11_244 rfl d_X11_sendAll_71 rfl (Nat.le_of_ble_eq_true rfl) (AMet.mono h (aw_toV (fun σ13 h => ?_)))
    obtain ⟨hS13, h⟩ := h
    refine aw_aload_n (i := 0) d_X11_sendAll_74 rfl rfl ?_
    refine aw_getRv fl_RX11_49 rfl (r := some (5, 0)) (St.get hS13 12 5 0 5 0 (by decide)) d_X11_sendAll_75 ?_
    refine aw_aload (i := 4) d_X11_sendAll_78 rfl ?_
    refine aw_getR fl_RX11_232 rfl d_X11_sendAll_80 ?_
    refine aw_aload (i := 4) d_X11_sendAll_83 rfl ?_
    refine aw_getI fl_RX11_248 rfl d_X11_sendAll_85 ?_
    refine aw_callV0 (as := [xR (gR σ13 11 0 j12), xI (gI σ13 11 3 j12)]) mw_X4_add (by decide +kernel) ml_RX11_200 rfl d_X11_sendAll_88 rfl (Nat.le_of_ble_eq_true rfl) (AMet.mono h (aw_toI (fun x15 σ14 h => ?_)))
    obtain ⟨hS14, h⟩ := h
    refine aw_popI d_X11_sendAll_91 ?_
    refine aw_aload_n (i := 0) d_X11_sendAll_92 rfl rfl ?_
    refine aw_getRv fl_RX11_60 rfl (r := some (0, 5)) (St.get hS14 12 8 0 0 5 (by decide)) d_X11_sendAll_93 ?_
    refine aw_aload (i := 4) d_X11_sendAll_96 rfl ?_
    obtain ⟨mc19, ms20, kk17, nn18, ek, en, h⟩ := h
    rw [ek, en]
    refine aw_callV (as := [xR (some (11, j12))]) mw_Jx4a65c_add_9ea2d (by decide +kernel) ml_RX11_85 rfl d_X11_sendAll_98 rfl (Nat.le_of_ble_eq_true rfl) (AMet.mono h (aw_toI (fun x21 σ16 h => ?_)))
    refine aw_popI d_X11_sendAll_101 ?_
    refine aw_iload_n (i := 2) d_X11_sendAll_102 rfl rfl ?_
    refine aw_aload (i := 4) d_X11_sendAll_103 rfl ?_
    refine aw_getI fl_RX11_251 rfl d_X11_sendAll_105 ?_
    refine aw_mmax ml_RX11_254 d_X11_sendAll_108 (Nat.le_of_ble_eq_true rfl) ?_
    refine aw_istore_n (i := 2) d_X11_sendAll_111 rfl (by decide) ?_
    refine aw_iinc (i := 3) (v := v3 + 1) d_X11_sendAll_112 rfl rfl (by decide) ?_
    refine aw_goto (tgt := 38) d_X11_sendAll_115 (by decide) ?_
    exact AW.weak h (by exact ⟨rfl, ⟨rfl, ⟨rfl, ⟨rfl, trivial⟩⟩⟩⟩)
