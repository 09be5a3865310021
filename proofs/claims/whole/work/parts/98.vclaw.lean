/-! the law -/
set_option maxRecDepth 20000 in
theorem vc_L_law {G : GG} {l : Launch} {d : Nat} {post : Option AVal → AS → Prop} {σ : AS} {kk nn : Nat} {p1 : Nat} (h : (∃ kk1 nn2 : Nat, (kk = kk1 + 1 ∧ nn = nn2 + 11 ∧ ((∃ mc6 ms7 kk4 nn5 : Nat, (kk1 = kk4 + mc6 ∧ nn2 = nn5 + ms7 ∧ (AMet G l M_X11_init d mc6 ms7 [xR (some (12, (cnt σ 12)))] (nO σ 12) (retV (fun σ3 => (∃ kk8 nn9 : Nat, (kk4 = kk8 + 1 ∧ nn5 = nn9 + 68 ∧ ((∃ mc13 ms14 kk11 nn12 : Nat, (kk8 = kk11 + mc13 ∧ nn9 = nn12 + ms14 ∧ (AMet G l M_X12_init d mc13 ms14 [xR (some (13, (cnt σ3 13)))] (nO σ3 13) (retV (fun σ10 => (∃ kk15 nn16 : Nat, (kk11 = kk15 + 1 ∧ nn12 = nn16 + 1 ∧ AW G l M_L_law (d + 1) post (nA σ10 24 1) kk15 nn16 23 [some (xR (some (27, p1))), some (xR (some (12, (cnt σ 12)))), some (xR (some (13, (cnt σ3 13)))), some (xR (some (24, (cnt σ10 24)))), some (xI 0), none, none] []))))))))))))))))))) : AW G l M_L_law (d + 1) post σ kk nn 0 [some (xR (some (27, p1))), none, none, none, none, none, none] [] := by
  obtain ⟨kk1, nn2, ek, en, h⟩ := h
  rw [ek, en]
  refine aw_new (c := 12) (n := 11) (r := (RX11, TX11, 11)) rfl rfl nw_RL_8 d_L_law_0 ?_
  refine aw_dupR d_L_law_3 ?_
  obtain ⟨mc6, ms7, kk4, nn5, ek, en, h⟩ := h
  rw [ek, en]
  refine aw_callI (as := []) mw_X11_init rfl rfl ml_RL_15 rfl d_L_law_4 rfl (Nat.le_of_ble_eq_true rfl) (AMet.mono h (aw_toV (fun σ3 h => ?_)))
  refine aw_astore_n (i := 1) d_L_law_7 rfl (by decide) ?_
  obtain ⟨kk8, nn9, ek, en, h⟩ := h
  rw [ek, en]
  refine aw_new (c := 13) (n := 68) (r := (RX12, TX12, 68)) rfl rfl nw_RL_16 d_L_law_8 ?_
  refine aw_dupR d_L_law_11 ?_
  obtain ⟨mc13, ms14, kk11, nn12, ek, en, h⟩ := h
  rw [ek, en]
  refine aw_callI (as := []) mw_X12_init rfl rfl ml_RL_18 rfl d_L_law_12 rfl (Nat.le_of_ble_eq_true rfl) (AMet.mono h (aw_toV (fun σ10 h => ?_)))
  refine aw_astore_n (i := 2) d_L_law_15 rfl (by decide) ?_
  refine aw_iconst (x := 1) d_L_law_16 (by decide) ?_
  obtain ⟨kk15, nn16, ek, en, h⟩ := h
  rw [ek, en]
  refine aw_newarr 24 (at0 := .long) (t := 4) (N := 1) (by decide) (by decide) rfl (Or.inr (Or.inr (Or.inr ⟨rfl, rfl⟩))) ac_long d_L_law_17 (by decide) (by decide) ?_
  refine aw_astore_n (i := 3) d_L_law_19 rfl (by decide) ?_
  refine aw_iconst (x := 0) d_L_law_20 (by decide) ?_
  refine aw_istore (i := 4) d_L_law_21 (by decide) ?_
  exact h
set_option maxRecDepth 20000 in
theorem vc_L_law_23 {G : GG} {l : Launch} {d : Nat} {post : Option AVal → AS → Prop} {σ : AS} {kk nn : Nat} {v0 : Nat} {v1 : Nat} {v2 : Nat} {v3 : Nat} {v4 : Int32} (h : (((((nI (gN σ 27 v0)) - 6) < v4 → post (some (xI 1)) σ)) ∧ ((¬ ((nI (gN σ 27 v0)) - 6) < v4 → (vp_in v4 (gN σ 27 v0) ∧ (((((gA σ 27 v0 v4.toNatClampNeg) &&& 31) = 0 → (vp_in (v4 + 1) (gN σ 27 v0) ∧ (vp_in (v4 + 2) (gN σ 27 v0) ∧ (vp_in (v4 + 3) (gN σ 27 v0) ∧ (vp_in (v4 + 4) (gN σ 27 v0) ∧ (vp_in (v4 + 5) (gN σ 27 v0) ∧ ((∃ mc20 ms21 kk18 nn19 : Nat, (kk = kk18 + mc20 ∧ nn = nn19 + ms21 ∧ (AMet G l M_X11_person d mc20 ms21 [xR (some (12, v1)), xI (gA σ 27 v0 (v4 + 1).toNatClampNeg), xI (gA σ 27 v0 (v4 + 2).toNatClampNeg), xI (gA σ 27 v0 (v4 + 3).toNatClampNeg), xI (gA σ 27 v0 (v4 + 4).toNatClampNeg), xI (gA σ 27 v0 (v4 + 5).toNatClampNeg)] σ (retI (fun x22 σ17 => (vp_in (v4 + 1) (gN σ17 27 v0) ∧ (vp_in (v4 + 2) (gN σ17 27 v0) ∧ (vp_in (v4 + 3) (gN σ17 27 v0) ∧ (vp_in (v4 + 4) (gN σ17 27 v0) ∧ (vp_in (v4 + 5) (gN σ17 27 v0) ∧ (AMet G l M_X12_person d 0 0 [xR (some (13, v2)), xI (gA σ17 27 v0 (v4 + 1).toNatClampNeg), xI (gA σ17 27 v0 (v4 + 2).toNatClampNeg), xI (gA σ17 27 v0 (v4 + 3).toNatClampNeg), xI (gA σ17 27 v0 (v4 + 4).toNatClampNeg), xI (gA σ17 27 v0 (v4 + 5).toNatClampNeg)] σ17 (retI (fun x24 σ23 => (((x22 = x24 → AW G l M_L_law (d + 1) post σ23 kk18 nn19 23 [some (xR (some (27, v0))), some (xR (some (12, v1))), some (xR (some (13, v2))), some (xR (some (24, v3))), some (xI (v4 + 6)), none, none] [])) ∧ ((¬ x22 = x24 → post (some (xI 0)) σ23)))))))))))))))))))))))) ∧ ((((gA σ 27 v0 v4.toNatClampNeg) &&& 31) = 1 → (vp_in (v4 + 1) (gN σ 27 v0) ∧ (vp_in (v4 + 2) (gN σ 27 v0) ∧ ((((gA σ 27 v0 (v4 + 2).toNatClampNeg) = 0 → AMet G l M_X11_away d 0 0 [xR (some (12, v1)), xI (gA σ 27 v0 (v4 + 1).toNatClampNeg), xI 0] σ (retI (fun x26 σ25 => (vp_in (v4 + 1) (gN σ25 27 v0) ∧ (vp_in (v4 + 2) (gN σ25 27 v0) ∧ ((((gA σ25 27 v0 (v4 + 2).toNatClampNeg) = 0 → AMet G l M_X12_away d 0 0 [xR (some (13, v2)), xI (gA σ25 27 v0 (v4 + 1).toNatClampNeg), xI 0] σ25 (retI (fun x28 σ27 => (((x26 = x28 → AW G l M_L_law (d + 1) post σ27 kk nn 23 [some (xR (some (27, v0))), some (xR (some (12, v1))), some (xR (some (13, v2))), some (xR (some (24, v3))), some (xI (v4 + 6)), none, none] [])) ∧ ((¬ x26 = x28 → post (some (xI 0)) σ27))))))) ∧ ((¬ (gA σ25 27 v0 (v4 + 2).toNatClampNeg) = 0 → AMet G l M_X12_away d 0 0 [xR (some (13, v2)), xI (gA σ25 27 v0 (v4 + 1).toNatClampNeg), xI 1] σ25 (retI (fun x30 σ29 => (((x26 = x30 → AW G l M_L_law (d + 1) post σ29 kk nn 23 [some (xR (some (27, v0))), some (xR (some (12, v1))), some (xR (some (13, v2))), some (xR (some (24, v3))), some (xI (v4 + 6)), none, none] [])) ∧ ((¬ x26 = x30 → post (some (xI 0)) σ29)))))))))))))) ∧ ((¬ (gA σ 27 v0 (v4 + 2).toNatClampNeg) = 0 → AMet G l M_X11_away d 0 0 [xR (some (12, v1)), xI (gA σ 27 v0 (v4 + 1).toNatClampNeg), xI 1] σ (retI (fun x32 σ31 => (vp_in (v4 + 1) (gN σ31 27 v0) ∧ (vp_in (v4 + 2) (gN σ31 27 v0) ∧ ((((gA σ31 27 v0 (v4 + 2).toNatClampNeg) = 0 → AMet G l M_X12_away d 0 0 [xR (some (13, v2)), xI (gA σ31 27 v0 (v4 + 1).toNatClampNeg), xI 0] σ31 (retI (fun x34 σ33 => (((x32 = x34 → AW G l M_L_law (d + 1) post σ33 kk nn 23 [some (xR (some (27, v0))), some (xR (some (12, v1))), some (xR (some (13, v2))), some (xR (some (24, v3))), some (xI (v4 + 6)), none, none] [])) ∧ ((¬ x32 = x34 → post (some (xI 0)) σ33))))))) ∧ ((¬ (gA σ31 27 v0 (v4 + 2).toNatClampNeg) = 0 → AMet G l M_X12_away d 0 0 [xR (some (13, v2)), xI (gA σ31 27 v0 (v4 + 1).toNatClampNeg), xI 1] σ31 (retI (fun x36 σ35 => (((x32 = x36 → AW G l M_L_law (d + 1) post σ35 kk nn 23 [some (xR (some (27, v0))), some (xR (some (12, v1))), some (xR (some (13, v2))), some (xR (some (24, v3))), some (xI (v4 + 6)), none, none] [])) ∧ ((¬ x32 = x36 → post (some (xI 0)) σ35))))))))))))))))))) ∧ ((((gA σ 27 v0 v4.toNatClampNeg) &&& 31) = 2 → (vp_in (v4 + 1) (gN σ 27 v0) ∧ (vp_in (v4 + 2) (gN σ 27 v0) ∧ (vp_in (v4 + 3) (gN σ 27 v0) ∧ (vp_in (v4 + 4) (gN σ 27 v0) ∧ (vp_in (v4 + 5) (gN σ 27 v0) ∧ (AMet G l M_X11_feed d 0 0 [xR (some (12, v1)), xI (gA σ 27 v0 (v4 + 1).toNatClampNeg), xI (gA σ 27 v0 (v4 + 2).toNatClampNeg), xI (gA σ 27 v0 (v4 + 3).toNatClampNeg), xI (gA σ 27 v0 (v4 + 4).toNatClampNeg), xI (gA σ 27 v0 (v4 + 5).toNatClampNeg)] σ (retI (fun x38 σ37 => (vp_in (v4 + 1) (gN σ37 27 v0) ∧ (vp_in (v4 + 2) (gN σ37 27 v0) ∧ (vp_in (v4 + 3) (gN σ37 27 v0) ∧ (vp_in (v4 + 4) (gN σ37 27 v0) ∧ (vp_in (v4 + 5) (gN σ37 27 v0) ∧ (AMet G l M_X12_feed d 0 0 [xR (some (13, v2)), xI (gA σ37 27 v0 (v4 + 1).toNatClampNeg), xI (gA σ37 27 v0 (v4 + 2).toNatClampNeg), xI (gA σ37 27 v0 (v4 + 3).toNatClampNeg), xI (gA σ37 27 v0 (v4 + 4).toNatClampNeg), xI (gA σ37 27 v0 (v4 + 5).toNatClampNeg)] σ37 (retI (fun x40 σ39 => (((x38 = x40 → AW G l M_L_law (d + 1) post σ39 kk nn 23 [some (xR (some (27, v0))), some (xR (some (12, v1))), some (xR (some (13, v2))), some (xR (some (24, v3))), some (xI (v4 + 6)), none, none] [])) ∧ ((¬ x38 = x40 → post (some (xI 0)) σ39))))))))))))))))))))) ∧ ((((gA σ 27 v0 v4.toNatClampNeg) &&& 31) = 3 → (vp_in (v4 + 1) (gN σ 27 v0) ∧ (AMet G l M_X11_end d 0 0 [xR (some (12, v1)), xI (gA σ 27 v0 (v4 + 1).toNatClampNeg)] σ (retI (fun x42 σ41 => (vp_in (v4 + 1) (gN σ41 27 v0) ∧ (AMet G l M_X12_end d 0 0 [xR (some (13, v2)), xI (gA σ41 27 v0 (v4 + 1).toNatClampNeg)] σ41 (retI (fun x44 σ43 => (((x42 = x44 → AW G l M_L_law (d + 1) post σ43 kk nn 23 [some (xR (some (27, v0))), some (xR (some (12, v1))), some (xR (some (13, v2))), some (xR (some (24, v3))), some (xI (v4 + 6)), none, none] [])) ∧ ((¬ x42 = x44 → post (some (xI 0)) σ43))))))))))))) ∧ ((((gA σ 27 v0 v4.toNatClampNeg) &&& 31) = 4 → (∃ mc48 ms49 kk46 nn47 : Nat, (kk = kk46 + mc48 ∧ nn = nn47 + ms49 ∧ (AMet G l M_X11_asks d mc48 ms49 [xR (some (12, v1))] σ (retI (fun x50 σ45 => AMet G l M_X12_asks d 0 0 [xR (some (13, v2))] σ45 (retI (fun x52 σ51 => (((x50 = x52 → AW G l M_L_law (d + 1) post σ51 kk46 nn47 23 [some (xR (some (27, v0))), some (xR (some (12, v1))), some (xR (some (13, v2))), some (xR (some (24, v3))), some (xI (v4 + 6)), none, none] [])) ∧ ((¬ x50 = x52 → post (some (xI 0)) σ51)))))))))))) ∧ ((((gA σ 27 v0 v4.toNatClampNeg) &&& 31) = 5 → (∃ mc56 ms57 kk54 nn55 : Nat, (kk = kk54 + mc56 ∧ nn = nn55 + ms57 ∧ (AMet G l M_X11_agree d mc56 ms57 [xR (some (12, v1))] σ (retI (fun x58 σ53 => AMet G l M_X12_agree d 0 0 [xR (some (13, v2))] σ53 (retI (fun x60 σ59 => (((x58 = x60 → AW G l M_L_law (d + 1) post σ59 kk54 nn55 23 [some (xR (some (27, v0))), some (xR (some (12, v1))), some (xR (some (13, v2))), some (xR (some (24, v3))), some (xI (v4 + 6)), none, none] [])) ∧ ((¬ x58 = x60 → post (some (xI 0)) σ59)))))))))))) ∧ ((((gA σ 27 v0 v4.toNatClampNeg) &&& 31) = 6 → AMet G l M_X11_place d 0 0 [xR (some (12, v1))] σ (retI (fun x62 σ61 => AMet G l M_X12_place d 0 0 [xR (some (13, v2))] σ61 (retI (fun x64 σ63 => (((x62 = x64 → AW G l M_L_law (d + 1) post σ63 kk nn 23 [some (xR (some (27, v0))), some (xR (some (12, v1))), some (xR (some (13, v2))), some (xR (some (24, v3))), some (xI (v4 + 6)), none, none] [])) ∧ ((¬ x62 = x64 → post (some (xI 0)) σ63))))))))) ∧ ((((gA σ 27 v0 v4.toNatClampNeg) &&& 31) = 7 → (vp_in (v4 + 1) (gN σ 27 v0) ∧ (vp_in (v4 + 2) (gN σ 27 v0) ∧ (vp_in (v4 + 3) (gN σ 27 v0) ∧ (AMet G l M_X11_fits d 0 0 [xR (some (12, v1)), xI (gA σ 27 v0 (v4 + 1).toNatClampNeg), xI (gA σ 27 v0 (v4 + 2).toNatClampNeg), xI (gA σ 27 v0 (v4 + 3).toNatClampNeg)] σ (retI (fun x66 σ65 => (vp_in (v4 + 1) (gN σ65 27 v0) ∧ (vp_in (v4 + 2) (gN σ65 27 v0) ∧ (vp_in (v4 + 3) (gN σ65 27 v0) ∧ (AMet G l M_X12_fits d 0 0 [xR (some (13, v2)), xI (gA σ65 27 v0 (v4 + 1).toNatClampNeg), xI (gA σ65 27 v0 (v4 + 2).toNatClampNeg), xI (gA σ65 27 v0 (v4 + 3).toNatClampNeg)] σ65 (retI (fun x68 σ67 => (((x66 = x68 → AW G l M_L_law (d + 1) post σ67 kk nn 23 [some (xR (some (27, v0))), some (xR (some (12, v1))), some (xR (some (13, v2))), some (xR (some (24, v3))), some (xI (v4 + 6)), none, none] [])) ∧ ((¬ x66 = x68 → post (some (xI 0)) σ67))))))))))))))))) ∧ ((((gA σ 27 v0 v4.toNatClampNeg) &&& 31) = 8 → AMet G l M_X11_lay d 0 0 [xR (some (12, v1))] σ (retI (fun x70 σ69 => AMet G l M_X12_lay d 0 0 [xR (some (13, v2))] σ69 (retI (fun x72 σ71 => (((x70 = x72 → AW G l M_L_law (d + 1) post σ71 kk nn 23 [some (xR (some (27, v0))), some (xR (some (12, v1))), some (xR (some (13, v2))), some (xR (some (24, v3))), some (xI (v4 + 6)), none, none] [])) ∧ ((¬ x70 = x72 → post (some (xI 0)) σ71))))))))) ∧ ((((gA σ 27 v0 v4.toNatClampNeg) &&& 31) = 9 → (vp_in (v4 + 1) (gN σ 27 v0) ∧ (AMet G l M_X11_called d 0 0 [xR (some (12, v1)), xI (gA σ 27 v0 (v4 + 1).toNatClampNeg)] σ (retI (fun x74 σ73 => (vp_in (v4 + 1) (gN σ73 27 v0) ∧ (AMet G l M_X12_called d 0 0 [xR (some (13, v2)), xI (gA σ73 27 v0 (v4 + 1).toNatClampNeg)] σ73 (retI (fun x76 σ75 => (((x74 = x76 → AW G l M_L_law (d + 1) post σ75 kk nn 23 [some (xR (some (27, v0))), some (xR (some (12, v1))), some (xR (some (13, v2))), some (xR (some (24, v3))), some (xI (v4 + 6)), none, none] [])) ∧ ((¬ x74 = x76 → post (some (xI 0)) σ75))))))))))))) ∧ ((((gA σ 27 v0 v4.toNatClampNeg) &&& 31) = 10 → (vp_in (v4 + 1) (gN σ 27 v0) ∧ (AMet G l M_X11_no d 0 0 [xR (some (12, v1)), xI (gA σ 27 v0 (v4 + 1).toNatClampNeg)] σ (retI (fun x78 σ77 => (vp_in (v4 + 1) (gN σ77 27 v0) ∧ (AMet G l M_X12_no d 0 0 [xR (some (13, v2)), xI (gA σ77 27 v0 (v4 + 1).toNatClampNeg)] σ77 (retI (fun x80 σ79 => (((x78 = x80 → AW G l M_L_law (d + 1) post σ79 kk nn 23 [some (xR (some (27, v0))), some (xR (some (12, v1))), some (xR (some (13, v2))), some (xR (some (24, v3))), some (xI (v4 + 6)), none, none] [])) ∧ ((¬ x78 = x80 → post (some (xI 0)) σ79))))))))))))) ∧ ((((gA σ 27 v0 v4.toNatClampNeg) &&& 31) = 11 → (vp_in (v4 + 1) (gN σ 27 v0) ∧ (AMet G l M_X11_moved d 0 0 [xR (some (12, v1)), xI (gA σ 27 v0 (v4 + 1).toNatClampNeg)] σ (retI (fun x82 σ81 => (vp_in (v4 + 1) (gN σ81 27 v0) ∧ (AMet G l M_X12_moved d 0 0 [xR (some (13, v2)), xI (gA σ81 27 v0 (v4 + 1).toNatClampNeg)] σ81 (retI (fun x84 σ83 => (((x82 = x84 → AW G l M_L_law (d + 1) post σ83 kk nn 23 [some (xR (some (27, v0))), some (xR (some (12, v1))), some (xR (some (13, v2))), some (xR (some (24, v3))), some (xI (v4 + 6)), none, none] [])) ∧ ((¬ x82 = x84 → post (some (xI 0)) σ83))))))))))))) ∧ ((((gA σ 27 v0 v4.toNatClampNeg) &&& 31) = 12 → (vp_in (v4 + 1) (gN σ 27 v0) ∧ (vp_in (v4 + 2) (gN σ 27 v0) ∧ ((∃ mc88 ms89 kk86 nn87 : Nat, (kk = kk86 + mc88 ∧ nn = nn87 + ms89 ∧ (AMet G l M_X11_step d mc88 ms89 [xR (some (12, v1)), xI (gA σ 27 v0 (v4 + 1).toNatClampNeg), xI (gA σ 27 v0 (v4 + 2).toNatClampNeg)] σ (retI (fun x90 σ85 => (vp_in (v4 + 1) (gN σ85 27 v0) ∧ (vp_in (v4 + 2) (gN σ85 27 v0) ∧ (AMet G l M_X12_step d 0 0 [xR (some (13, v2)), xI (gA σ85 27 v0 (v4 + 1).toNatClampNeg), xI (gA σ85 27 v0 (v4 + 2).toNatClampNeg)] σ85 (retI (fun x92 σ91 => (((x90 = x92 → AW G l M_L_law (d + 1) post σ91 kk86 nn87 23 [some (xR (some (27, v0))), some (xR (some (12, v1))), some (xR (some (13, v2))), some (xR (some (24, v3))), some (xI (v4 + 6)), none, none] [])) ∧ ((¬ x90 = x92 → post (some (xI 0)) σ91)))))))))))))))))) ∧ ((((gA σ 27 v0 v4.toNatClampNeg) &&& 31) = 13 → (vp_in (v4 + 1) (gN σ 27 v0) ∧ (vp_in (v4 + 2) (gN σ 27 v0) ∧ (vp_in (v4 + 3) (gN σ 27 v0) ∧ (AMet G l M_X11_record d 0 0 [xR (some (12, v1)), xI (gA σ 27 v0 (v4 + 1).toNatClampNeg), xI (gA σ 27 v0 (v4 + 2).toNatClampNeg), xI (gA σ 27 v0 (v4 + 3).toNatClampNeg)] σ (retI (fun x94 σ93 => (vp_in (v4 + 1) (gN σ93 27 v0) ∧ (vp_in (v4 + 2) (gN σ93 27 v0) ∧ (vp_in (v4 + 3) (gN σ93 27 v0) ∧ (AMet G l M_X12_record d 0 0 [xR (some (13, v2)), xI (gA σ93 27 v0 (v4 + 1).toNatClampNeg), xI (gA σ93 27 v0 (v4 + 2).toNatClampNeg), xI (gA σ93 27 v0 (v4 + 3).toNatClampNeg)] σ93 (retI (fun x96 σ95 => (((x94 = x96 → AW G l M_L_law (d + 1) post σ95 kk nn 23 [some (xR (some (27, v0))), some (xR (some (12, v1))), some (xR (some (13, v2))), some (xR (some (24, v3))), some (xI (v4 + 6)), none, none] [])) ∧ ((¬ x94 = x96 → post (some (xI 0)) σ95))))))))))))))))) ∧ ((((gA σ 27 v0 v4.toNatClampNeg) &&& 31) = 14 → (vp_in (v4 + 1) (gN σ 27 v0) ∧ (vp_in (v4 + 2) (gN σ 27 v0) ∧ (AMet G l M_X11_tell d 0 0 [xR (some (12, v1)), xI (gA σ 27 v0 (v4 + 1).toNatClampNeg), xI (gA σ 27 v0 (v4 + 2).toNatClampNeg)] σ (retI (fun x98 σ97 => (vp_in (v4 + 1) (gN σ97 27 v0) ∧ (vp_in (v4 + 2) (gN σ97 27 v0) ∧ (AMet G l M_X12_tell d 0 0 [xR (some (13, v2)), xI (gA σ97 27 v0 (v4 + 1).toNatClampNeg), xI (gA σ97 27 v0 (v4 + 2).toNatClampNeg)] σ97 (retI (fun x100 σ99 => (((x98 = x100 → AW G l M_L_law (d + 1) post σ99 kk nn 23 [some (xR (some (27, v0))), some (xR (some (12, v1))), some (xR (some (13, v2))), some (xR (some (24, v3))), some (xI (v4 + 6)), none, none] [])) ∧ ((¬ x98 = x100 → post (some (xI 0)) σ99))))))))))))))) ∧ ((((gA σ 27 v0 v4.toNatClampNeg) &&& 31) = 15 → (vp_in (v4 + 1) (gN σ 27 v0) ∧ (vp_in (v4 + 2) (gN σ 27 v0) ∧ (vp_in (v4 + 3) (gN σ 27 v0) ∧ ((∃ mc104 ms105 kk102 nn103 : Nat, (kk = kk102 + mc104 ∧ nn = nn103 + ms105 ∧ (AMetW G l M_L_seen hhS d mc104 ms105 [xR (some (12, v1)), xI (gA σ 27 v0 (v4 + 1).toNatClampNeg), xI (gA σ 27 v0 (v4 + 2).toNatClampNeg), xI (gA σ 27 v0 (v4 + 3).toNatClampNeg), xR (some (24, v3))] σ (retI (fun x106 σ101 => (vp_in (v4 + 1) (gN σ101 27 v0) ∧ (vp_in (v4 + 2) (gN σ101 27 v0) ∧ (vp_in (v4 + 3) (gN σ101 27 v0) ∧ (AMet G l M_X12_seen d 0 0 [xR (some (13, v2)), xI (gA σ101 27 v0 (v4 + 1).toNatClampNeg), xI (gA σ101 27 v0 (v4 + 2).toNatClampNeg), xI (gA σ101 27 v0 (v4 + 3).toNatClampNeg)] σ101 (retI (fun x108 σ107 => AMet G l M_X12_thrown d 0 0 [xR (some (13, v2))] σ107 (retI (fun x110 σ109 => (((x110 = x106 → (((¬ x106 = 0 → AW G l M_L_law (d + 1) post σ109 kk102 nn103 23 [some (xR (some (27, v0))), some (xR (some (12, v1))), some (xR (some (13, v2))), some (xR (some (24, v3))), some (xI (v4 + 6)), none, none] [])) ∧ ((x106 = 0 → (vp_in 0 (gN σ109 24 v3) ∧ ((((lg_cmp (gL σ109 24 v3 (0 : Int32).toNatClampNeg) x108.toInt64) = 0 → AW G l M_L_law (d + 1) post σ109 kk102 nn103 23 [some (xR (some (27, v0))), some (xR (some (12, v1))), some (xR (some (13, v2))), some (xR (some (24, v3))), some (xI (v4 + 6)), none, none] [])) ∧ ((¬ (lg_cmp (gL σ109 24 v3 (0 : Int32).toNatClampNeg) x108.toInt64) = 0 → post (some (xI 0)) σ109))))))))) ∧ ((¬ x110 = x106 → post (some (xI 0)) σ109)))))))))))))))))))))) ∧ ((((gA σ 27 v0 v4.toNatClampNeg) &&& 31) = 16 → (vp_in (v4 + 1) (gN σ 27 v0) ∧ (vp_in (v4 + 2) (gN σ 27 v0) ∧ (AMet G l M_X11_retake d 0 0 [xR (some (12, v1)), xI (gA σ 27 v0 (v4 + 1).toNatClampNeg), xI (gA σ 27 v0 (v4 + 2).toNatClampNeg)] σ (retI (fun x112 σ111 => (vp_in (v4 + 1) (gN σ111 27 v0) ∧ (vp_in (v4 + 2) (gN σ111 27 v0) ∧ (AMet G l M_X12_retake d 0 0 [xR (some (13, v2)), xI (gA σ111 27 v0 (v4 + 1).toNatClampNeg), xI (gA σ111 27 v0 (v4 + 2).toNatClampNeg)] σ111 (retI (fun x114 σ113 => (((x112 = x114 → AW G l M_L_law (d + 1) post σ113 kk nn 23 [some (xR (some (27, v0))), some (xR (some (12, v1))), some (xR (some (13, v2))), some (xR (some (24, v3))), some (xI (v4 + 6)), none, none] [])) ∧ ((¬ x112 = x114 → post (some (xI 0)) σ113))))))))))))))) ∧ ((((gA σ 27 v0 v4.toNatClampNeg) &&& 31) = 17 → (vp_in (v4 + 1) (gN σ 27 v0) ∧ (AMet G l M_X11_lacks d 0 0 [xR (some (12, v1)), xI (gA σ 27 v0 (v4 + 1).toNatClampNeg)] σ (retI (fun x116 σ115 => (vp_in (v4 + 1) (gN σ115 27 v0) ∧ (AMet G l M_X12_lacks d 0 0 [xR (some (13, v2)), xI (gA σ115 27 v0 (v4 + 1).toNatClampNeg)] σ115 (retI (fun x118 σ117 => (((x116 = x118 → AW G l M_L_law (d + 1) post σ117 kk nn 23 [some (xR (some (27, v0))), some (xR (some (12, v1))), some (xR (some (13, v2))), some (xR (some (24, v3))), some (xI (v4 + 6)), none, none] [])) ∧ ((¬ x116 = x118 → post (some (xI 0)) σ117))))))))))))) ∧ ((((gA σ 27 v0 v4.toNatClampNeg) &&& 31) = 18 → (vp_in (v4 + 1) (gN σ 27 v0) ∧ (vp_in (v4 + 2) (gN σ 27 v0) ∧ (AMet G l M_X11_buses d 0 0 [xR (some (12, v1)), xI (gA σ 27 v0 (v4 + 1).toNatClampNeg), xI (gA σ 27 v0 (v4 + 2).toNatClampNeg)] σ (retI (fun x120 σ119 => (vp_in (v4 + 1) (gN σ119 27 v0) ∧ (vp_in (v4 + 2) (gN σ119 27 v0) ∧ (AMet G l M_X12_buses d 0 0 [xR (some (13, v2)), xI (gA σ119 27 v0 (v4 + 1).toNatClampNeg), xI (gA σ119 27 v0 (v4 + 2).toNatClampNeg)] σ119 (retI (fun x122 σ121 => (((x120 = x122 → AW G l M_L_law (d + 1) post σ121 kk nn 23 [some (xR (some (27, v0))), some (xR (some (12, v1))), some (xR (some (13, v2))), some (xR (some (24, v3))), some (xI (v4 + 6)), none, none] [])) ∧ ((¬ x120 = x122 → post (some (xI 0)) σ121))))))))))))))) ∧ ((((gA σ 27 v0 v4.toNatClampNeg) &&& 31) = 19 → (vp_in (v4 + 1) (gN σ 27 v0) ∧ (vp_in (v4 + 2) (gN σ 27 v0) ∧ (AMet G l M_X11_ask d 0 0 [xR (some (12, v1)), xI (gA σ 27 v0 (v4 + 1).toNatClampNeg), xI (gA σ 27 v0 (v4 + 2).toNatClampNeg)] σ (retI (fun x124 σ123 => (vp_in (v4 + 1) (gN σ123 27 v0) ∧ (vp_in (v4 + 2) (gN σ123 27 v0) ∧ (AMet G l M_X12_ask d 0 0 [xR (some (13, v2)), xI (gA σ123 27 v0 (v4 + 1).toNatClampNeg), xI (gA σ123 27 v0 (v4 + 2).toNatClampNeg)] σ123 (retI (fun x126 σ125 => (((x124 = x126 → AW G l M_L_law (d + 1) post σ125 kk nn 23 [some (xR (some (27, v0))), some (xR (some (12, v1))), some (xR (some (13, v2))), some (xR (some (24, v3))), some (xI (v4 + 6)), none, none] [])) ∧ ((¬ x124 = x126 → post (some (xI 0)) σ125))))))))))))))) ∧ ((((gA σ 27 v0 v4.toNatClampNeg) &&& 31) = 20 → (vp_in (v4 + 1) (gN σ 27 v0) ∧ (vp_in (v4 + 2) (gN σ 27 v0) ∧ (AMet G l M_X11_about d 0 0 [xR (some (12, v1)), xI (gA σ 27 v0 (v4 + 1).toNatClampNeg), xI (gA σ 27 v0 (v4 + 2).toNatClampNeg)] σ (retI (fun x128 σ127 => (vp_in (v4 + 1) (gN σ127 27 v0) ∧ (vp_in (v4 + 2) (gN σ127 27 v0) ∧ (AMet G l M_X12_about d 0 0 [xR (some (13, v2)), xI (gA σ127 27 v0 (v4 + 1).toNatClampNeg), xI (gA σ127 27 v0 (v4 + 2).toNatClampNeg)] σ127 (retI (fun x130 σ129 => (((x128 = x130 → AW G l M_L_law (d + 1) post σ129 kk nn 23 [some (xR (some (27, v0))), some (xR (some (12, v1))), some (xR (some (13, v2))), some (xR (some (24, v3))), some (xI (v4 + 6)), none, none] [])) ∧ ((¬ x128 = x130 → post (some (xI 0)) σ129))))))))))))))) ∧ ((((gA σ 27 v0 v4.toNatClampNeg) &&& 31) = 21 → (vp_in (v4 + 1) (gN σ 27 v0) ∧ (vp_in (v4 + 2) (gN σ 27 v0) ∧ (vp_in (v4 + 3) (gN σ 27 v0) ∧ (AMet G l M_X11_pay d 0 0 [xR (some (12, v1)), xI (gA σ 27 v0 (v4 + 1).toNatClampNeg), xI (gA σ 27 v0 (v4 + 2).toNatClampNeg), xI (gA σ 27 v0 (v4 + 3).toNatClampNeg)] σ (retL (fun x132 σ131 => (vp_in (v4 + 1) (gN σ131 27 v0) ∧ (vp_in (v4 + 2) (gN σ131 27 v0) ∧ (vp_in (v4 + 3) (gN σ131 27 v0) ∧ (AMet G l M_X12_pay d 0 0 [xR (some (13, v2)), xI (gA σ131 27 v0 (v4 + 1).toNatClampNeg), xI (gA σ131 27 v0 (v4 + 2).toNatClampNeg), xI (gA σ131 27 v0 (v4 + 3).toNatClampNeg)] σ131 (retL (fun x134 σ133 => ((((lg_cmp x132 x134) = 0 → AW G l M_L_law (d + 1) post σ133 kk nn 23 [some (xR (some (27, v0))), some (xR (some (12, v1))), some (xR (some (13, v2))), some (xR (some (24, v3))), some (xI (v4 + 6)), none, none] [])) ∧ ((¬ (lg_cmp x132 x134) = 0 → post (some (xI 0)) σ133))))))))))))))))) ∧ ((((gA σ 27 v0 v4.toNatClampNeg) &&& 31) = 22 → (vp_in (v4 + 1) (gN σ 27 v0) ∧ (AMet G l M_X11_count d 0 0 [xR (some (12, v1)), xI (gA σ 27 v0 (v4 + 1).toNatClampNeg)] σ (retI (fun x136 σ135 => (vp_in (v4 + 1) (gN σ135 27 v0) ∧ (AMet G l M_X12_count d 0 0 [xR (some (13, v2)), xI (gA σ135 27 v0 (v4 + 1).toNatClampNeg)] σ135 (retI (fun x138 σ137 => (((x136 = x138 → AW G l M_L_law (d + 1) post σ137 kk nn 23 [some (xR (some (27, v0))), some (xR (some (12, v1))), some (xR (some (13, v2))), some (xR (some (24, v3))), some (xI (v4 + 6)), none, none] [])) ∧ ((¬ x136 = x138 → post (some (xI 0)) σ137))))))))))))) ∧ (((((gA σ 27 v0 v4.toNatClampNeg) &&& 31).toInt < 0 ∨ 22 < ((gA σ 27 v0 v4.toNatClampNeg) &&& 31).toInt) → AW G l M_L_law (d + 1) post σ kk nn 23 [some (xR (some (27, v0))), some (xR (some (12, v1))), some (xR (some (13, v2))), some (xR (some (24, v3))), some (xI (v4 + 6)), none, none] [])))))))) : AW G l M_L_law (d + 1) post σ kk nn 23 [some (xR (some (27, v0))), some (xR (some (12, v1))), some (xR (some (13, v2))), some (xR (some (24, v3))), some (xI v4), none, none] [] := by
  refine aw_iload (i := 4) d_L_law_23 rfl ?_
  refine aw_aload_n (i := 0) d_L_law_25 rfl rfl ?_
  refine aw_alen d_L_law_26 (by decide) ?_
  refine aw_bipush (x := 6) d_L_law_27 (by decide) ?_
  refine aw_isub d_L_law_29 ?_
  refine aw_icmp_gt (tgt := 1005) d_L_law_30 (by decide) (fun c => ?_) (fun c => ?_)
  · have h := h.1 c
    refine aw_iconst (x := 1) d_L_law_1005 (by decide) ?_
    exact aw_ret d_L_law_1006 rfl (by decide) h
  · have h := h.2 c
    refine aw_aload_n (i := 0) d_L_law_33 rfl rfl ?_
    refine aw_iload (i := 4) d_L_law_34 rfl ?_
    obtain ⟨hq, h⟩ := h
    refine aw_iald d_L_law_36 (by decide) hq ?_
    refine aw_bipush (x := 31) d_L_law_37 (by decide) ?_
    refine aw_iand d_L_law_39 ?_
    by_cases c0 : ((gA σ 27 v0 v4.toNatClampNeg) &&& 31) = 0
    · have c := c0
      have h := h.1 c
      refine aw_sw (k := 0) (off := 108) (tgt := 148) d_L_law_40 c (by decide) (by decide) (by decide) (by decide) ?_
      refine aw_aload_n (i := 1) d_L_law_148 rfl rfl ?_
      refine aw_aload_n (i := 0) d_L_law_149 rfl rfl ?_
      refine aw_iload (i := 4) d_L_law_150 rfl ?_
      refine aw_iconst (x := 1) d_L_law_152 (by decide) ?_
      refine aw_iadd d_L_law_153 ?_
      obtain ⟨hq, h⟩ := h
      refine aw_iald d_L_law_154 (by decide) hq ?_
      refine aw_aload_n (i := 0) d_L_law_155 rfl rfl ?_
      refine aw_iload (i := 4) d_L_law_156 rfl ?_
      refine aw_iconst (x := 2) d_L_law_158 (by decide) ?_
      refine aw_iadd d_L_law_159 ?_
      obtain ⟨hq, h⟩ := h
      refine aw_iald d_L_law_160 (by decide) hq ?_
      refine aw_aload_n (i := 0) d_L_law_161 rfl rfl ?_
      refine aw_iload (i := 4) d_L_law_162 rfl ?_
      refine aw_iconst (x := 3) d_L_law_164 (by decide) ?_
      refine aw_iadd d_L_law_165 ?_
      obtain ⟨hq, h⟩ := h
      refine aw_iald d_L_law_166 (by decide) hq ?_
      refine aw_aload_n (i := 0) d_L_law_167 rfl rfl ?_
      refine aw_iload (i := 4) d_L_law_168 rfl ?_
      refine aw_iconst (x := 4) d_L_law_170 (by decide) ?_
      refine aw_iadd d_L_law_171 ?_
      obtain ⟨hq, h⟩ := h
      refine aw_iald d_L_law_172 (by decide) hq ?_
      refine aw_aload_n (i := 0) d_L_law_173 rfl rfl ?_
      refine aw_iload (i := 4) d_L_law_174 rfl ?_
      refine aw_iconst (x := 5) d_L_law_176 (by decide) ?_
      refine aw_iadd d_L_law_177 ?_
      obtain ⟨hq, h⟩ := h
      refine aw_iald d_L_law_178 (by decide) hq ?_
      obtain ⟨mc20, ms21, kk18, nn19, ek, en, h⟩ := h
      rw [ek, en]
      refine aw_callV (as := [xI (gA σ 27 v0 (v4 + 1).toNatClampNeg), xI (gA σ 27 v0 (v4 + 2).toNatClampNeg), xI (gA σ 27 v0 (v4 + 3).toNatClampNeg), xI (gA σ 27 v0 (v4 + 4).toNatClampNeg), xI (gA σ 27 v0 (v4 + 5).toNatClampNeg)]) mw_X11_person (by decide +kernel) ml_RL_19 rfl d_L_law_179 rfl (Nat.le_of_ble_eq_true rfl) (AMet.mono h (aw_toI (fun x22 σ17 h => ?_)))
      refine aw_aload_n (i := 2) d_L_law_182 rfl rfl ?_
      refine aw_aload_n (i := 0) d_L_law_183 rfl rfl ?_
      refine aw_iload (i := 4) d_L_law_184 rfl ?_
      refine aw_iconst (x := 1) d_L_law_186 (by decide) ?_
      refine aw_iadd d_L_law_187 ?_
      obtain ⟨hq, h⟩ := h
      refine aw_iald d_L_law_188 (by decide) hq ?_
      refine aw_aload_n (i := 0) d_L_law_189 rfl rfl ?_
      refine aw_iload (i := 4) d_L_law_190 rfl ?_
      refine aw_iconst (x := 2) d_L_law_192 (by decide) ?_
      refine aw_iadd d_L_law_193 ?_
      obtain ⟨hq, h⟩ := h
      refine aw_iald d_L_law_194 (by decide) hq ?_
      refine aw_aload_n (i := 0) d_L_law_195 rfl rfl ?_
      refine aw_iload (i := 4) d_L_law_196 rfl ?_
      refine aw_iconst (x := 3) d_L_law_198 (by decide) ?_
      refine aw_iadd d_L_law_199 ?_
      obtain ⟨hq, h⟩ := h
      refine aw_iald d_L_law_200 (by decide) hq ?_
      refine aw_aload_n (i := 0) d_L_law_201 rfl rfl ?_
      refine aw_iload (i := 4) d_L_law_202 rfl ?_
      refine aw_iconst (x := 4) d_L_law_204 (by decide) ?_
      refine aw_iadd d_L_law_205 ?_
      obtain ⟨hq, h⟩ := h
      refine aw_iald d_L_law_206 (by decide) hq ?_
      refine aw_aload_n (i := 0) d_L_law_207 rfl rfl ?_
      refine aw_iload (i := 4) d_L_law_208 rfl ?_
      refine aw_iconst (x := 5) d_L_law_210 (by decide) ?_
      refine aw_iadd d_L_law_211 ?_
      obtain ⟨hq, h⟩ := h
      refine aw_iald d_L_law_212 (by decide) hq ?_
      refine aw_callV0 (as := [xI (gA σ17 27 v0 (v4 + 1).toNatClampNeg), xI (gA σ17 27 v0 (v4 + 2).toNatClampNeg), xI (gA σ17 27 v0 (v4 + 3).toNatClampNeg), xI (gA σ17 27 v0 (v4 + 4).toNatClampNeg), xI (gA σ17 27 v0 (v4 + 5).toNatClampNeg)]) mw_X12_person (by decide +kernel) ml_RL_23 rfl d_L_law_213 rfl (Nat.le_of_ble_eq_true rfl) (AMet.mono h (aw_toI (fun x24 σ23 h => ?_)))
      refine aw_icmp_eq (tgt := 999) d_L_law_216 (by decide) (fun c => ?_) (fun c => ?_)
      · have h := h.1 c
        refine aw_iinc (i := 4) (v := v4 + 6) d_L_law_999 rfl rfl (by decide) ?_
        refine aw_goto (tgt := 23) d_L_law_1002 (by decide) ?_
        exact h
      · have h := h.2 c
        refine aw_iconst (x := 0) d_L_law_219 (by decide) ?_
        exact aw_ret d_L_law_220 rfl (by decide) h
    by_cases c1 : ((gA σ 27 v0 v4.toNatClampNeg) &&& 31) = 1
    · have c := c1
      have h := h.2.1 c
      refine aw_sw (k := 1) (off := 181) (tgt := 221) d_L_law_40 c (by decide) (by decide) (by decide) (by decide) ?_
      refine aw_aload_n (i := 1) d_L_law_221 rfl rfl ?_
      refine aw_aload_n (i := 0) d_L_law_222 rfl rfl ?_
      refine aw_iload (i := 4) d_L_law_223 rfl ?_
      refine aw_iconst (x := 1) d_L_law_225 (by decide) ?_
      refine aw_iadd d_L_law_226 ?_
      obtain ⟨hq, h⟩ := h
      refine aw_iald d_L_law_227 (by decide) hq ?_
      refine aw_aload_n (i := 0) d_L_law_228 rfl rfl ?_
      refine aw_iload (i := 4) d_L_law_229 rfl ?_
      refine aw_iconst (x := 2) d_L_law_231 (by decide) ?_
      refine aw_iadd d_L_law_232 ?_
      obtain ⟨hq, h⟩ := h
      refine aw_iald d_L_law_233 (by decide) hq ?_
      refine aw_if_eq (tgt := 241) d_L_law_234 (by decide) (fun c => ?_) (fun c => ?_)
      · have h := h.1 c
        refine aw_iconst (x := 0) d_L_law_241 (by decide) ?_
        refine aw_callV0 (as := [xI (gA σ 27 v0 (v4 + 1).toNatClampNeg), xI 0]) mw_X11_away (by decide +kernel) ml_RL_24 rfl d_L_law_242 rfl (Nat.le_of_ble_eq_true rfl) (AMet.mono h (aw_toI (fun x26 σ25 h => ?_)))
        refine aw_aload_n (i := 2) d_L_law_245 rfl rfl ?_
        refine aw_aload_n (i := 0) d_L_law_246 rfl rfl ?_
        refine aw_iload (i := 4) d_L_law_247 rfl ?_
        refine aw_iconst (x := 1) d_L_law_249 (by decide) ?_
        refine aw_iadd d_L_law_250 ?_
        obtain ⟨hq, h⟩ := h
        refine aw_iald d_L_law_251 (by decide) hq ?_
        refine aw_aload_n (i := 0) d_L_law_252 rfl rfl ?_
        refine aw_iload (i := 4) d_L_law_253 rfl ?_
        refine aw_iconst (x := 2) d_L_law_255 (by decide) ?_
        refine aw_iadd d_L_law_256 ?_
        obtain ⟨hq, h⟩ := h
        refine aw_iald d_L_law_257 (by decide) hq ?_
        refine aw_if_eq (tgt := 265) d_L_law_258 (by decide) (fun c => ?_) (fun c => ?_)
        · have h := h.1 c
          refine aw_iconst (x := 0) d_L_law_265 (by decide) ?_
          refine aw_callV0 (as := [xI (gA σ25 27 v0 (v4 + 1).toNatClampNeg), xI 0]) mw_X12_away (by decide +kernel) ml_RL_28 rfl d_L_law_266 rfl (Nat.le_of_ble_eq_true rfl) (AMet.mono h (aw_toI (fun x28 σ27 h => ?_)))
          refine aw_icmp_eq (tgt := 999) d_L_law_269 (by decide) (fun c => ?_) (fun c => ?_)
          · have h := h.1 c
            refine aw_iinc (i := 4) (v := v4 + 6) d_L_law_999 rfl rfl (by decide) ?_
            refine aw_goto (tgt := 23) d_L_law_1002 (by decide) ?_
            exact h
          · have h := h.2 c
            refine aw_iconst (x := 0) d_L_law_272 (by decide) ?_
            exact aw_ret d_L_law_273 rfl (by decide) h
        · have h := h.2 c
          refine aw_iconst (x := 1) d_L_law_261 (by decide) ?_
          refine aw_goto (tgt := 266) d_L_law_262 (by decide) ?_
          refine aw_callV0 (as := [xI (gA σ25 27 v0 (v4 + 1).toNatClampNeg), xI 1]) mw_X12_away (by decide +kernel) ml_RL_28 rfl d_L_law_266 rfl (Nat.le_of_ble_eq_true rfl) (AMet.mono h (aw_toI (fun x30 σ29 h => ?_)))
          refine aw_icmp_eq (tgt := 999) d_L_law_269 (by decide) (fun c => ?_) (fun c => ?_)
          · have h := h.1 c
            refine aw_iinc (i := 4) (v := v4 + 6) d_L_law_999 rfl rfl (by decide) ?_
            refine aw_goto (tgt := 23) d_L_law_1002 (by decide) ?_
            exact h
          · have h := h.2 c
            refine aw_iconst (x := 0) d_L_law_272 (by decide) ?_
            exact aw_ret d_L_law_273 rfl (by decide) h
      · have h := h.2 c
        refine aw_iconst (x := 1) d_L_law_237 (by decide) ?_
        refine aw_goto (tgt := 242) d_L_law_238 (by decide) ?_
        refine aw_callV0 (as := [xI (gA σ 27 v0 (v4 + 1).toNatClampNeg), xI 1]) mw_X11_away (by decide +kernel) ml_RL_24 rfl d_L_law_242 rfl (Nat.le_of_ble_eq_true rfl) (AMet.mono h (aw_toI (fun x32 σ31 h => ?_)))
        refine aw_aload_n (i := 2) d_L_law_245 rfl rfl ?_
        refine aw_aload_n (i := 0) d_L_law_246 rfl rfl ?_
        refine aw_iload (i := 4) d_L_law_247 rfl ?_
        refine aw_iconst (x := 1) d_L_law_249 (by decide) ?_
        refine aw_iadd d_L_law_250 ?_
        obtain ⟨hq, h⟩ := h
        refine aw_iald d_L_law_251 (by decide) hq ?_
        refine aw_aload_n (i := 0) d_L_law_252 rfl rfl ?_
        refine aw_iload (i := 4) d_L_law_253 rfl ?_
        refine aw_iconst (x := 2) d_L_law_255 (by decide) ?_
        refine aw_iadd d_L_law_256 ?_
        obtain ⟨hq, h⟩ := h
        refine aw_iald d_L_law_257 (by decide) hq ?_
        refine aw_if_eq (tgt := 265) d_L_law_258 (by decide) (fun c => ?_) (fun c => ?_)
        · have h := h.1 c
          refine aw_iconst (x := 0) d_L_law_265 (by decide) ?_
          refine aw_callV0 (as := [xI (gA σ31 27 v0 (v4 + 1).toNatClampNeg), xI 0]) mw_X12_away (by decide +kernel) ml_RL_28 rfl d_L_law_266 rfl (Nat.le_of_ble_eq_true rfl) (AMet.mono h (aw_toI (fun x34 σ33 h => ?_)))
          refine aw_icmp_eq (tgt := 999) d_L_law_269 (by decide) (fun c => ?_) (fun c => ?_)
          · have h := h.1 c
            refine aw_iinc (i := 4) (v := v4 + 6) d_L_law_999 rfl rfl (by decide) ?_
            refine aw_goto (tgt := 23) d_L_law_1002 (by decide) ?_
            exact h
          · have h := h.2 c
            refine aw_iconst (x := 0) d_L_law_272 (by decide) ?_
            exact aw_ret d_L_law_273 rfl (by decide) h
        · have h := h.2 c
          refine aw_iconst (x := 1) d_L_law_261 (by decide) ?_
          refine aw_goto (tgt := 266) d_L_law_262 (by decide) ?_
          refine aw_callV0 (as := [xI (gA σ31 27 v0 (v4 + 1).toNatClampNeg), xI 1]) mw_X12_away (by decide +kernel) ml_RL_28 rfl d_L_law_266 rfl (Nat.le_of_ble_eq_true rfl) (AMet.mono h (aw_toI (fun x36 σ35 h => ?_)))
          refine aw_icmp_eq (tgt := 999) d_L_law_269 (by decide) (fun c => ?_) (fun c => ?_)
          · have h := h.1 c
            refine aw_iinc (i := 4) (v := v4 + 6) d_L_law_999 rfl rfl (by decide) ?_
            refine aw_goto (tgt := 23) d_L_law_1002 (by decide) ?_
            exact h
          · have h := h.2 c
            refine aw_iconst (x := 0) d_L_law_272 (by decide) ?_
            exact aw_ret d_L_law_273 rfl (by decide) h
    by_cases c2 : ((gA σ 27 v0 v4.toNatClampNeg) &&& 31) = 2
    · have c := c2
      have h := h.2.2.1 c
      refine aw_sw (k := 2) (off := 234) (tgt := 274) d_L_law_40 c (by decide) (by decide) (by decide) (by decide) ?_
      refine aw_aload_n (i := 1) d_L_law_274 rfl rfl ?_
      refine aw_aload_n (i := 0) d_L_law_275 rfl rfl ?_
      refine aw_iload (i := 4) d_L_law_276 rfl ?_
      refine aw_iconst (x := 1) d_L_law_278 (by decide) ?_
      refine aw_iadd d_L_law_279 ?_
      obtain ⟨hq, h⟩ := h
      refine aw_iald d_L_law_280 (by decide) hq ?_
      refine aw_aload_n (i := 0) d_L_law_281 rfl rfl ?_
      refine aw_iload (i := 4) d_L_law_282 rfl ?_
      refine aw_iconst (x := 2) d_L_law_284 (by decide) ?_
      refine aw_iadd d_L_law_285 ?_
      obtain ⟨hq, h⟩ := h
      refine aw_iald d_L_law_286 (by decide) hq ?_
      refine aw_aload_n (i := 0) d_L_law_287 rfl rfl ?_
      refine aw_iload (i := 4) d_L_law_288 rfl ?_
      refine aw_iconst (x := 3) d_L_law_290 (by decide) ?_
      refine aw_iadd d_L_law_291 ?_
      obtain ⟨hq, h⟩ := h
      refine aw_iald d_L_law_292 (by decide) hq ?_
      refine aw_aload_n (i := 0) d_L_law_293 rfl rfl ?_
      refine aw_iload (i := 4) d_L_law_294 rfl ?_
      refine aw_iconst (x := 4) d_L_law_296 (by decide) ?_
      refine aw_iadd d_L_law_297 ?_
      obtain ⟨hq, h⟩ := h
      refine aw_iald d_L_law_298 (by decide) hq ?_
      refine aw_aload_n (i := 0) d_L_law_299 rfl rfl ?_
      refine aw_iload (i := 4) d_L_law_300 rfl ?_
      refine aw_iconst (x := 5) d_L_law_302 (by decide) ?_
      refine aw_iadd d_L_law_303 ?_
      obtain ⟨hq, h⟩ := h
      refine aw_iald d_L_law_304 (by decide) hq ?_
      refine aw_callV0 (as := [xI (gA σ 27 v0 (v4 + 1).toNatClampNeg), xI (gA σ 27 v0 (v4 + 2).toNatClampNeg), xI (gA σ 27 v0 (v4 + 3).toNatClampNeg), xI (gA σ 27 v0 (v4 + 4).toNatClampNeg), xI (gA σ 27 v0 (v4 + 5).toNatClampNeg)]) mw_X11_feed (by decide +kernel) ml_RL_29 rfl d_L_law_305 rfl (Nat.le_of_ble_eq_true rfl) (AMet.mono h (aw_toI (fun x38 σ37 h => ?_)))
      refine aw_aload_n (i := 2) d_L_law_308 rfl rfl ?_
      refine aw_aload_n (i := 0) d_L_law_309 rfl rfl ?_
      refine aw_iload (i := 4) d_L_law_310 rfl ?_
      refine aw_iconst (x := 1) d_L_law_312 (by decide) ?_
      refine aw_iadd d_L_law_313 ?_
      obtain ⟨hq, h⟩ := h
      refine aw_iald d_L_law_314 (by decide) hq ?_
      refine aw_aload_n (i := 0) d_L_law_315 rfl rfl ?_
      refine aw_iload (i := 4) d_L_law_316 rfl ?_
      refine aw_iconst (x := 2) d_L_law_318 (by decide) ?_
      refine aw_iadd d_L_law_319 ?_
      obtain ⟨hq, h⟩ := h
      refine aw_iald d_L_law_320 (by decide) hq ?_
      refine aw_aload_n (i := 0) d_L_law_321 rfl rfl ?_
      refine aw_iload (i := 4) d_L_law_322 rfl ?_
      refine aw_iconst (x := 3) d_L_law_324 (by decide) ?_
      refine aw_iadd d_L_law_325 ?_
      obtain ⟨hq, h⟩ := h
      refine aw_iald d_L_law_326 (by decide) hq ?_
      refine aw_aload_n (i := 0) d_L_law_327 rfl rfl ?_
      refine aw_iload (i := 4) d_L_law_328 rfl ?_
      refine aw_iconst (x := 4) d_L_law_330 (by decide) ?_
      refine aw_iadd d_L_law_331 ?_
      obtain ⟨hq, h⟩ := h
      refine aw_iald d_L_law_332 (by decide) hq ?_
      refine aw_aload_n (i := 0) d_L_law_333 rfl rfl ?_
      refine aw_iload (i := 4) d_L_law_334 rfl ?_
      refine aw_iconst (x := 5) d_L_law_336 (by decide) ?_
      refine aw_iadd d_L_law_337 ?_
      obtain ⟨hq, h⟩ := h
      refine aw_iald d_L_law_338 (by decide) hq ?_
      refine aw_callV0 (as := [xI (gA σ37 27 v0 (v4 + 1).toNatClampNeg), xI (gA σ37 27 v0 (v4 + 2).toNatClampNeg), xI (gA σ37 27 v0 (v4 + 3).toNatClampNeg), xI (gA σ37 27 v0 (v4 + 4).toNatClampNeg), xI (gA σ37 27 v0 (v4 + 5).toNatClampNeg)]) mw_X12_feed (by decide +kernel) ml_RL_32 rfl d_L_law_339 rfl (Nat.le_of_ble_eq_true rfl) (AMet.mono h (aw_toI (fun x40 σ39 h => ?_)))
      refine aw_icmp_eq (tgt := 999) d_L_law_342 (by decide) (fun c => ?_) (fun c => ?_)
      · have h := h.1 c
        refine aw_iinc (i := 4) (v := v4 + 6) d_L_law_999 rfl rfl (by decide) ?_
        refine aw_goto (tgt := 23) d_L_law_1002 (by decide) ?_
        exact h
      · have h := h.2 c
        refine aw_iconst (x := 0) d_L_law_345 (by decide) ?_
        exact aw_ret d_L_law_346 rfl (by decide) h
    by_cases c3 : ((gA σ 27 v0 v4.toNatClampNeg) &&& 31) = 3
    · have c := c3
      have h := h.2.2.2.1 c
      refine aw_sw (k := 3) (off := 307) (tgt := 347) d_L_law_40 c (by decide) (by decide) (by decide) (by decide) ?_
      refine aw_aload_n (i := 1) d_L_law_347 rfl rfl ?_
      refine aw_aload_n (i := 0) d_L_law_348 rfl rfl ?_
      refine aw_iload (i := 4) d_L_law_349 rfl ?_
      refine aw_iconst (x := 1) d_L_law_351 (by decide) ?_
      refine aw_iadd d_L_law_352 ?_
      obtain ⟨hq, h⟩ := h
      refine aw_iald d_L_law_353 (by decide) hq ?_
      refine aw_callV0 (as := [xI (gA σ 27 v0 (v4 + 1).toNatClampNeg)]) mw_X11_end (by decide +kernel) ml_RL_33 rfl d_L_law_354 rfl (Nat.le_of_ble_eq_true rfl) (AMet.mono h (aw_toI (fun x42 σ41 h => ?_)))
      refine aw_aload_n (i := 2) d_L_law_357 rfl rfl ?_
      refine aw_aload_n (i := 0) d_L_law_358 rfl rfl ?_
      refine aw_iload (i := 4) d_L_law_359 rfl ?_
      refine aw_iconst (x := 1) d_L_law_361 (by decide) ?_
      refine aw_iadd d_L_law_362 ?_
      obtain ⟨hq, h⟩ := h
      refine aw_iald d_L_law_363 (by decide) hq ?_
      refine aw_callV0 (as := [xI (gA σ41 27 v0 (v4 + 1).toNatClampNeg)]) mw_X12_end (by decide +kernel) ml_RL_37 rfl d_L_law_364 rfl (Nat.le_of_ble_eq_true rfl) (AMet.mono h (aw_toI (fun x44 σ43 h => ?_)))
      refine aw_icmp_eq (tgt := 999) d_L_law_367 (by decide) (fun c => ?_) (fun c => ?_)
      · have h := h.1 c
        refine aw_iinc (i := 4) (v := v4 + 6) d_L_law_999 rfl rfl (by decide) ?_
        refine aw_goto (tgt := 23) d_L_law_1002 (by decide) ?_
        exact h
      · have h := h.2 c
        refine aw_iconst (x := 0) d_L_law_370 (by decide) ?_
        exact aw_ret d_L_law_371 rfl (by decide) h
    by_cases c4 : ((gA σ 27 v0 v4.toNatClampNeg) &&& 31) = 4
    · have c := c4
      have h := h.2.2.2.2.1 c
      refine aw_sw (k := 4) (off := 332) (tgt := 372) d_L_law_40 c (by decide) (by decide) (by decide) (by decide) ?_
      refine aw_aload_n (i := 1) d_L_law_372 rfl rfl ?_
      obtain ⟨mc48, ms49, kk46, nn47, ek, en, h⟩ := h
      rw [ek, en]
      refine aw_callV (as := []) mw_X11_asks (by decide +kernel) ml_RL_38 rfl d_L_law_373 rfl (Nat.le_of_ble_eq_true rfl) (AMet.mono h (aw_toI (fun x50 σ45 h => ?_)))
      refine aw_aload_n (i := 2) d_L_law_376 rfl rfl ?_
      refine aw_callV0 (as := []) mw_X12_asks (by decide +kernel) ml_RL_42 rfl d_L_law_377 rfl (Nat.le_of_ble_eq_true rfl) (AMet.mono h (aw_toI (fun x52 σ51 h => ?_)))
      refine aw_icmp_eq (tgt := 999) d_L_law_380 (by decide) (fun c => ?_) (fun c => ?_)
      · have h := h.1 c
        refine aw_iinc (i := 4) (v := v4 + 6) d_L_law_999 rfl rfl (by decide) ?_
        refine aw_goto (tgt := 23) d_L_law_1002 (by decide) ?_
        exact h
      · have h := h.2 c
        refine aw_iconst (x := 0) d_L_law_383 (by decide) ?_
        exact aw_ret d_L_law_384 rfl (by decide) h
    by_cases c5 : ((gA σ 27 v0 v4.toNatClampNeg) &&& 31) = 5
    · have c := c5
      have h := h.2.2.2.2.2.1 c
      refine aw_sw (k := 5) (off := 345) (tgt := 385) d_L_law_40 c (by decide) (by decide) (by decide) (by decide) ?_
      refine aw_aload_n (i := 1) d_L_law_385 rfl rfl ?_
      obtain ⟨mc56, ms57, kk54, nn55, ek, en, h⟩ := h
      rw [ek, en]
      refine aw_callV (as := []) mw_X11_agree (by decide +kernel) ml_RL_43 rfl d_L_law_386 rfl (Nat.le_of_ble_eq_true rfl) (AMet.mono h (aw_toI (fun x58 σ53 h => ?_)))
      refine aw_aload_n (i := 2) d_L_law_389 rfl rfl ?_
      refine aw_callV0 (as := []) mw_X12_agree (by decide +kernel) ml_RL_46 rfl d_L_law_390 rfl (Nat.le_of_ble_eq_true rfl) (AMet.mono h (aw_toI (fun x60 σ59 h => ?_)))
      refine aw_icmp_eq (tgt := 999) d_L_law_393 (by decide) (fun c => ?_) (fun c => ?_)
      · have h := h.1 c
        refine aw_iinc (i := 4) (v := v4 + 6) d_L_law_999 rfl rfl (by decide) ?_
        refine aw_goto (tgt := 23) d_L_law_1002 (by decide) ?_
        exact h
      · have h := h.2 c
        refine aw_iconst (x := 0) d_L_law_396 (by decide) ?_
        exact aw_ret d_L_law_397 rfl (by decide) h
    by_cases c6 : ((gA σ 27 v0 v4.toNatClampNeg) &&& 31) = 6
    · have c := c6
      have h := h.2.2.2.2.2.2.1 c
      refine aw_sw (k := 6) (off := 358) (tgt := 398) d_L_law_40 c (by decide) (by decide) (by decide) (by decide) ?_
      refine aw_aload_n (i := 1) d_L_law_398 rfl rfl ?_
      refine aw_callV0 (as := []) mw_X11_place (by decide +kernel) ml_RL_47 rfl d_L_law_399 rfl (Nat.le_of_ble_eq_true rfl) (AMet.mono h (aw_toI (fun x62 σ61 h => ?_)))
      refine aw_aload_n (i := 2) d_L_law_402 rfl rfl ?_
      refine aw_callV0 (as := []) mw_X12_place (by decide +kernel) ml_RL_50 rfl d_L_law_403 rfl (Nat.le_of_ble_eq_true rfl) (AMet.mono h (aw_toI (fun x64 σ63 h => ?_)))
      refine aw_icmp_eq (tgt := 999) d_L_law_406 (by decide) (fun c => ?_) (fun c => ?_)
      · have h := h.1 c
        refine aw_iinc (i := 4) (v := v4 + 6) d_L_law_999 rfl rfl (by decide) ?_
        refine aw_goto (tgt := 23) d_L_law_1002 (by decide) ?_
        exact h
      · have h := h.2 c
        refine aw_iconst (x := 0) d_L_law_409 (by decide) ?_
        exact aw_ret d_L_law_410 rfl (by decide) h
    by_cases c7 : ((gA σ 27 v0 v4.toNatClampNeg) &&& 31) = 7
    · have c := c7
      have h := h.2.2.2.2.2.2.2.1 c
      refine aw_sw (k := 7) (off := 371) (tgt := 411) d_L_law_40 c (by decide) (by decide) (by decide) (by decide) ?_
      refine aw_aload_n (i := 1) d_L_law_411 rfl rfl ?_
      refine aw_aload_n (i := 0) d_L_law_412 rfl rfl ?_
      refine aw_iload (i := 4) d_L_law_413 rfl ?_
      refine aw_iconst (x := 1) d_L_law_415 (by decide) ?_
      refine aw_iadd d_L_law_416 ?_
      obtain ⟨hq, h⟩ := h
      refine aw_iald d_L_law_417 (by decide) hq ?_
      refine aw_aload_n (i := 0) d_L_law_418 rfl rfl ?_
      refine aw_iload (i := 4) d_L_law_419 rfl ?_
      refine aw_iconst (x := 2) d_L_law_421 (by decide) ?_
      refine aw_iadd d_L_law_422 ?_
      obtain ⟨hq, h⟩ := h
      refine aw_iald d_L_law_423 (by decide) hq ?_
      refine aw_aload_n (i := 0) d_L_law_424 rfl rfl ?_
      refine aw_iload (i := 4) d_L_law_425 rfl ?_
      refine aw_iconst (x := 3) d_L_law_427 (by decide) ?_
      refine aw_iadd d_L_law_428 ?_
      obtain ⟨hq, h⟩ := h
      refine aw_iald d_L_law_429 (by decide) hq ?_
      refine aw_callV0 (as := [xI (gA σ 27 v0 (v4 + 1).toNatClampNeg), xI (gA σ 27 v0 (v4 + 2).toNatClampNeg), xI (gA σ 27 v0 (v4 + 3).toNatClampNeg)]) mw_X11_fits (by decide +kernel) ml_RL_51 rfl d_L_law_430 rfl (Nat.le_of_ble_eq_true rfl) (AMet.mono h (aw_toI (fun x66 σ65 h => ?_)))
      refine aw_aload_n (i := 2) d_L_law_433 rfl rfl ?_
      refine aw_aload_n (i := 0) d_L_law_434 rfl rfl ?_
      refine aw_iload (i := 4) d_L_law_435 rfl ?_
      refine aw_iconst (x := 1) d_L_law_437 (by decide) ?_
      refine aw_iadd d_L_law_438 ?_
      obtain ⟨hq, h⟩ := h
      refine aw_iald d_L_law_439 (by decide) hq ?_
      refine aw_aload_n (i := 0) d_L_law_440 rfl rfl ?_
      refine aw_iload (i := 4) d_L_law_441 rfl ?_
      refine aw_iconst (x := 2) d_L_law_443 (by decide) ?_
      refine aw_iadd d_L_law_444 ?_
      obtain ⟨hq, h⟩ := h
      refine aw_iald d_L_law_445 (by decide) hq ?_
      refine aw_aload_n (i := 0) d_L_law_446 rfl rfl ?_
      refine aw_iload (i := 4) d_L_law_447 rfl ?_
      refine aw_iconst (x := 3) d_L_law_449 (by decide) ?_
      refine aw_iadd d_L_law_450 ?_
      obtain ⟨hq, h⟩ := h
      refine aw_iald d_L_law_451 (by decide) hq ?_
      refine aw_callV0 (as := [xI (gA σ65 27 v0 (v4 + 1).toNatClampNeg), xI (gA σ65 27 v0 (v4 + 2).toNatClampNeg), xI (gA σ65 27 v0 (v4 + 3).toNatClampNeg)]) mw_X12_fits (by decide +kernel) ml_RL_54 rfl d_L_law_452 rfl (Nat.le_of_ble_eq_true rfl) (AMet.mono h (aw_toI (fun x68 σ67 h => ?_)))
      refine aw_icmp_eq (tgt := 999) d_L_law_455 (by decide) (fun c => ?_) (fun c => ?_)
      · have h := h.1 c
        refine aw_iinc (i := 4) (v := v4 + 6) d_L_law_999 rfl rfl (by decide) ?_
        refine aw_goto (tgt := 23) d_L_law_1002 (by decide) ?_
        exact h
      · have h := h.2 c
        refine aw_iconst (x := 0) d_L_law_458 (by decide) ?_
        exact aw_ret d_L_law_459 rfl (by decide) h
    by_cases c8 : ((gA σ 27 v0 v4.toNatClampNeg) &&& 31) = 8
    · have c := c8
      have h := h.2.2.2.2.2.2.2.2.1 c
      refine aw_sw (k := 8) (off := 420) (tgt := 460) d_L_law_40 c (by decide) (by decide) (by decide) (by decide) ?_
      refine aw_aload_n (i := 1) d_L_law_460 rfl rfl ?_
      refine aw_callV0 (as := []) mw_X11_lay (by decide +kernel) ml_RL_55 rfl d_L_law_461 rfl (Nat.le_of_ble_eq_true rfl) (AMet.mono h (aw_toI (fun x70 σ69 h => ?_)))
      refine aw_aload_n (i := 2) d_L_law_464 rfl rfl ?_
      refine aw_callV0 (as := []) mw_X12_lay (by decide +kernel) ml_RL_58 rfl d_L_law_465 rfl (Nat.le_of_ble_eq_true rfl) (AMet.mono h (aw_toI (fun x72 σ71 h => ?_)))
      refine aw_icmp_eq (tgt := 999) d_L_law_468 (by decide) (fun c => ?_) (fun c => ?_)
      · have h := h.1 c
        refine aw_iinc (i := 4) (v := v4 + 6) d_L_law_999 rfl rfl (by decide) ?_
        refine aw_goto (tgt := 23) d_L_law_1002 (by decide) ?_
        exact h
      · have h := h.2 c
        refine aw_iconst (x := 0) d_L_law_471 (by decide) ?_
        exact aw_ret d_L_law_472 rfl (by decide) h
    by_cases c9 : ((gA σ 27 v0 v4.toNatClampNeg) &&& 31) = 9
    · have c := c9
      have h := h.2.2.2.2.2.2.2.2.2.1 c
      refine aw_sw (k := 9) (off := 433) (tgt := 473) d_L_law_40 c (by decide) (by decide) (by decide) (by decide) ?_
      refine aw_aload_n (i := 1) d_L_law_473 rfl rfl ?_
      refine aw_aload_n (i := 0) d_L_law_474 rfl rfl ?_
      refine aw_iload (i := 4) d_L_law_475 rfl ?_
      refine aw_iconst (x := 1) d_L_law_477 (by decide) ?_
      refine aw_iadd d_L_law_478 ?_
      obtain ⟨hq, h⟩ := h
      refine aw_iald d_L_law_479 (by decide) hq ?_
      refine aw_callV0 (as := [xI (gA σ 27 v0 (v4 + 1).toNatClampNeg)]) mw_X11_called (by decide +kernel) ml_RL_59 rfl d_L_law_480 rfl (Nat.le_of_ble_eq_true rfl) (AMet.mono h (aw_toI (fun x74 σ73 h => ?_)))
      refine aw_aload_n (i := 2) d_L_law_483 rfl rfl ?_
      refine aw_aload_n (i := 0) d_L_law_484 rfl rfl ?_
      refine aw_iload (i := 4) d_L_law_485 rfl ?_
      refine aw_iconst (x := 1) d_L_law_487 (by decide) ?_
      refine aw_iadd d_L_law_488 ?_
      obtain ⟨hq, h⟩ := h
      refine aw_iald d_L_law_489 (by decide) hq ?_
      refine aw_callV0 (as := [xI (gA σ73 27 v0 (v4 + 1).toNatClampNeg)]) mw_X12_called (by decide +kernel) ml_RL_62 rfl d_L_law_490 rfl (Nat.le_of_ble_eq_true rfl) (AMet.mono h (aw_toI (fun x76 σ75 h => ?_)))
      refine aw_icmp_eq (tgt := 999) d_L_law_493 (by decide) (fun c => ?_) (fun c => ?_)
      · have h := h.1 c
        refine aw_iinc (i := 4) (v := v4 + 6) d_L_law_999 rfl rfl (by decide) ?_
        refine aw_goto (tgt := 23) d_L_law_1002 (by decide) ?_
        exact h
      · have h := h.2 c
        refine aw_iconst (x := 0) d_L_law_496 (by decide) ?_
        exact aw_ret d_L_law_497 rfl (by decide) h
    by_cases c10 : ((gA σ 27 v0 v4.toNatClampNeg) &&& 31) = 10
    · have c := c10
      have h := h.2.2.2.2.2.2.2.2.2.2.1 c
      refine aw_sw (k := 10) (off := 458) (tgt := 498) d_L_law_40 c (by decide) (by decide) (by decide) (by decide) ?_
      refine aw_aload_n (i := 1) d_L_law_498 rfl rfl ?_
      refine aw_aload_n (i := 0) d_L_law_499 rfl rfl ?_
      refine aw_iload (i := 4) d_L_law_500 rfl ?_
      refine aw_iconst (x := 1) d_L_law_502 (by decide) ?_
      refine aw_iadd d_L_law_503 ?_
      obtain ⟨hq, h⟩ := h
      refine aw_iald d_L_law_504 (by decide) hq ?_
      refine aw_callV0 (as := [xI (gA σ 27 v0 (v4 + 1).toNatClampNeg)]) mw_X11_no (by decide +kernel) ml_RL_63 rfl d_L_law_505 rfl (Nat.le_of_ble_eq_true rfl) (AMet.mono h (aw_toI (fun x78 σ77 h => ?_)))
      refine aw_aload_n (i := 2) d_L_law_508 rfl rfl ?_
      refine aw_aload_n (i := 0) d_L_law_509 rfl rfl ?_
      refine aw_iload (i := 4) d_L_law_510 rfl ?_
      refine aw_iconst (x := 1) d_L_law_512 (by decide) ?_
      refine aw_iadd d_L_law_513 ?_
      obtain ⟨hq, h⟩ := h
      refine aw_iald d_L_law_514 (by decide) hq ?_
      refine aw_callV0 (as := [xI (gA σ77 27 v0 (v4 + 1).toNatClampNeg)]) mw_X12_no (by decide +kernel) ml_RL_66 rfl d_L_law_515 rfl (Nat.le_of_ble_eq_true rfl) (AMet.mono h (aw_toI (fun x80 σ79 h => ?_)))
      refine aw_icmp_eq (tgt := 999) d_L_law_518 (by decide) (fun c => ?_) (fun c => ?_)
      · have h := h.1 c
        refine aw_iinc (i := 4) (v := v4 + 6) d_L_law_999 rfl rfl (by decide) ?_
        refine aw_goto (tgt := 23) d_L_law_1002 (by decide) ?_
        exact h
      · have h := h.2 c
        refine aw_iconst (x := 0) d_L_law_521 (by decide) ?_
        exact aw_ret d_L_law_522 rfl (by decide) h
    by_cases c11 : ((gA σ 27 v0 v4.toNatClampNeg) &&& 31) = 11
    · have c := c11
      have h := h.2.2.2.2.2.2.2.2.2.2.2.1 c
      refine aw_sw (k := 11) (off := 483) (tgt := 523) d_L_law_40 c (by decide) (by decide) (by decide) (by decide) ?_
      refine aw_aload_n (i := 1) d_L_law_523 rfl rfl ?_
      refine aw_aload_n (i := 0) d_L_law_524 rfl rfl ?_
      refine aw_iload (i := 4) d_L_law_525 rfl ?_
      refine aw_iconst (x := 1) d_L_law_527 (by decide) ?_
      refine aw_iadd d_L_law_528 ?_
      obtain ⟨hq, h⟩ := h
      refine aw_iald d_L_law_529 (by decide) hq ?_
      refine aw_callV0 (as := [xI (gA σ 27 v0 (v4 + 1).toNatClampNeg)]) mw_X11_moved (by decide +kernel) ml_RL_67 rfl d_L_law_530 rfl (Nat.le_of_ble_eq_true rfl) (AMet.mono h (aw_toI (fun x82 σ81 h => ?_)))
      refine aw_aload_n (i := 2) d_L_law_533 rfl rfl ?_
      refine aw_aload_n (i := 0) d_L_law_534 rfl rfl ?_
      refine aw_iload (i := 4) d_L_law_535 rfl ?_
      refine aw_iconst (x := 1) d_L_law_537 (by decide) ?_
      refine aw_iadd d_L_law_538 ?_
      obtain ⟨hq, h⟩ := h
      refine aw_iald d_L_law_539 (by decide) hq ?_
      refine aw_callV0 (as := [xI (gA σ81 27 v0 (v4 + 1).toNatClampNeg)]) mw_X12_moved (by decide +kernel) ml_RL_70 rfl d_L_law_540 rfl (Nat.le_of_ble_eq_true rfl) (AMet.mono h (aw_toI (fun x84 σ83 h => ?_)))
      refine aw_icmp_eq (tgt := 999) d_L_law_543 (by decide) (fun c => ?_) (fun c => ?_)
      · have h := h.1 c
        refine aw_iinc (i := 4) (v := v4 + 6) d_L_law_999 rfl rfl (by decide) ?_
        refine aw_goto (tgt := 23) d_L_law_1002 (by decide) ?_
        exact h
      · have h := h.2 c
        refine aw_iconst (x := 0) d_L_law_546 (by decide) ?_
        exact aw_ret d_L_law_547 rfl (by decide) h
    by_cases c12 : ((gA σ 27 v0 v4.toNatClampNeg) &&& 31) = 12
    · have c := c12
      have h := h.2.2.2.2.2.2.2.2.2.2.2.2.1 c
      refine aw_sw (k := 12) (off := 508) (tgt := 548) d_L_law_40 c (by decide) (by decide) (by decide) (by decide) ?_
      refine aw_aload_n (i := 1) d_L_law_548 rfl rfl ?_
      refine aw_aload_n (i := 0) d_L_law_549 rfl rfl ?_
      refine aw_iload (i := 4) d_L_law_550 rfl ?_
      refine aw_iconst (x := 1) d_L_law_552 (by decide) ?_
      refine aw_iadd d_L_law_553 ?_
      obtain ⟨hq, h⟩ := h
      refine aw_iald d_L_law_554 (by decide) hq ?_
      refine aw_aload_n (i := 0) d_L_law_555 rfl rfl ?_
      refine aw_iload (i := 4) d_L_law_556 rfl ?_
      refine aw_iconst (x := 2) d_L_law_558 (by decide) ?_
      refine aw_iadd d_L_law_559 ?_
      obtain ⟨hq, h⟩ := h
      refine aw_iald d_L_law_560 (by decide) hq ?_
      obtain ⟨mc88, ms89, kk86, nn87, ek, en, h⟩ := h
      rw [ek, en]
      refine aw_callV (as := [xI (gA σ 27 v0 (v4 + 1).toNatClampNeg), xI (gA σ 27 v0 (v4 + 2).toNatClampNeg)]) mw_X11_step (by decide +kernel) ml_RL_71 rfl d_L_law_561 rfl (Nat.le_of_ble_eq_true rfl) (AMet.mono h (aw_toI (fun x90 σ85 h => ?_)))
      refine aw_aload_n (i := 2) d_L_law_564 rfl rfl ?_
      refine aw_aload_n (i := 0) d_L_law_565 rfl rfl ?_
      refine aw_iload (i := 4) d_L_law_566 rfl ?_
      refine aw_iconst (x := 1) d_L_law_568 (by decide) ?_
      refine aw_iadd d_L_law_569 ?_
      obtain ⟨hq, h⟩ := h
      refine aw_iald d_L_law_570 (by decide) hq ?_
      refine aw_aload_n (i := 0) d_L_law_571 rfl rfl ?_
      refine aw_iload (i := 4) d_L_law_572 rfl ?_
      refine aw_iconst (x := 2) d_L_law_574 (by decide) ?_
      refine aw_iadd d_L_law_575 ?_
      obtain ⟨hq, h⟩ := h
      refine aw_iald d_L_law_576 (by decide) hq ?_
      refine aw_callV0 (as := [xI (gA σ85 27 v0 (v4 + 1).toNatClampNeg), xI (gA σ85 27 v0 (v4 + 2).toNatClampNeg)]) mw_X12_step (by decide +kernel) ml_RL_75 rfl d_L_law_577 rfl (Nat.le_of_ble_eq_true rfl) (AMet.mono h (aw_toI (fun x92 σ91 h => ?_)))
      refine aw_icmp_eq (tgt := 999) d_L_law_580 (by decide) (fun c => ?_) (fun c => ?_)
      · have h := h.1 c
        refine aw_iinc (i := 4) (v := v4 + 6) d_L_law_999 rfl rfl (by decide) ?_
        refine aw_goto (tgt := 23) d_L_law_1002 (by decide) ?_
        exact h
      · have h := h.2 c
        refine aw_iconst (x := 0) d_L_law_583 (by decide) ?_
        exact aw_ret d_L_law_584 rfl (by decide) h
    by_cases c13 : ((gA σ 27 v0 v4.toNatClampNeg) &&& 31) = 13
    · have c := c13
      have h := h.2.2.2.2.2.2.2.2.2.2.2.2.2.1 c
      refine aw_sw (k := 13) (off := 545) (tgt := 585) d_L_law_40 c (by decide) (by decide) (by decide) (by decide) ?_
      refine aw_aload_n (i := 1) d_L_law_585 rfl rfl ?_
      refine aw_aload_n (i := 0) d_L_law_586 rfl rfl ?_
      refine aw_iload (i := 4) d_L_law_587 rfl ?_
      refine aw_iconst (x := 1) d_L_law_589 (by decide) ?_
      refine aw_iadd d_L_law_590 ?_
      obtain ⟨hq, h⟩ := h
      refine aw_iald d_L_law_591 (by decide) hq ?_
      refine aw_aload_n (i := 0) d_L_law_592 rfl rfl ?_
      refine aw_iload (i := 4) d_L_law_593 rfl ?_
      refine aw_iconst (x := 2) d_L_law_595 (by decide) ?_
      refine aw_iadd d_L_law_596 ?_
      obtain ⟨hq, h⟩ := h
      refine aw_iald d_L_law_597 (by decide) hq ?_
      refine aw_aload_n (i := 0) d_L_law_598 rfl rfl ?_
      refine aw_iload (i := 4) d_L_law_599 rfl ?_
      refine aw_iconst (x := 3) d_L_law_601 (by decide) ?_
      refine aw_iadd d_L_law_602 ?_
      obtain ⟨hq, h⟩ := h
      refine aw_iald d_L_law_603 (by decide) hq ?_
      refine aw_callV0 (as := [xI (gA σ 27 v0 (v4 + 1).toNatClampNeg), xI (gA σ 27 v0 (v4 + 2).toNatClampNeg), xI (gA σ 27 v0 (v4 + 3).toNatClampNeg)]) mw_X11_record (by decide +kernel) ml_RL_76 rfl d_L_law_604 rfl (Nat.le_of_ble_eq_true rfl) (AMet.mono h (aw_toI (fun x94 σ93 h => ?_)))
      refine aw_aload_n (i := 2) d_L_law_607 rfl rfl ?_
      refine aw_aload_n (i := 0) d_L_law_608 rfl rfl ?_
      refine aw_iload (i := 4) d_L_law_609 rfl ?_
      refine aw_iconst (x := 1) d_L_law_611 (by decide) ?_
      refine aw_iadd d_L_law_612 ?_
      obtain ⟨hq, h⟩ := h
      refine aw_iald d_L_law_613 (by decide) hq ?_
      refine aw_aload_n (i := 0) d_L_law_614 rfl rfl ?_
      refine aw_iload (i := 4) d_L_law_615 rfl ?_
      refine aw_iconst (x := 2) d_L_law_617 (by decide) ?_
      refine aw_iadd d_L_law_618 ?_
      obtain ⟨hq, h⟩ := h
      refine aw_iald d_L_law_619 (by decide) hq ?_
      refine aw_aload_n (i := 0) d_L_law_620 rfl rfl ?_
      refine aw_iload (i := 4) d_L_law_621 rfl ?_
      refine aw_iconst (x := 3) d_L_law_623 (by decide) ?_
      refine aw_iadd d_L_law_624 ?_
      obtain ⟨hq, h⟩ := h
      refine aw_iald d_L_law_625 (by decide) hq ?_
      refine aw_callV0 (as := [xI (gA σ93 27 v0 (v4 + 1).toNatClampNeg), xI (gA σ93 27 v0 (v4 + 2).toNatClampNeg), xI (gA σ93 27 v0 (v4 + 3).toNatClampNeg)]) mw_X12_record (by decide +kernel) ml_RL_79 rfl d_L_law_626 rfl (Nat.le_of_ble_eq_true rfl) (AMet.mono h (aw_toI (fun x96 σ95 h => ?_)))
      refine aw_icmp_eq (tgt := 999) d_L_law_629 (by decide) (fun c => ?_) (fun c => ?_)
      · have h := h.1 c
        refine aw_iinc (i := 4) (v := v4 + 6) d_L_law_999 rfl rfl (by decide) ?_
        refine aw_goto (tgt := 23) d_L_law_1002 (by decide) ?_
        exact h
      · have h := h.2 c
        refine aw_iconst (x := 0) d_L_law_632 (by decide) ?_
        exact aw_ret d_L_law_633 rfl (by decide) h
    by_cases c14 : ((gA σ 27 v0 v4.toNatClampNeg) &&& 31) = 14
    · have c := c14
      have h := h.2.2.2.2.2.2.2.2.2.2.2.2.2.2.1 c
      refine aw_sw (k := 14) (off := 594) (tgt := 634) d_L_law_40 c (by decide) (by decide) (by decide) (by decide) ?_
      refine aw_aload_n (i := 1) d_L_law_634 rfl rfl ?_
      refine aw_aload_n (i := 0) d_L_law_635 rfl rfl ?_
      refine aw_iload (i := 4) d_L_law_636 rfl ?_
      refine aw_iconst (x := 1) d_L_law_638 (by decide) ?_
      refine aw_iadd d_L_law_639 ?_
      obtain ⟨hq, h⟩ := h
      refine aw_iald d_L_law_640 (by decide) hq ?_
      refine aw_aload_n (i := 0) d_L_law_641 rfl rfl ?_
      refine aw_iload (i := 4) d_L_law_642 rfl ?_
      refine aw_iconst (x := 2) d_L_law_644 (by decide) ?_
      refine aw_iadd d_L_law_645 ?_
      obtain ⟨hq, h⟩ := h
      refine aw_iald d_L_law_646 (by decide) hq ?_
      refine aw_callV0 (as := [xI (gA σ 27 v0 (v4 + 1).toNatClampNeg), xI (gA σ 27 v0 (v4 + 2).toNatClampNeg)]) mw_X11_tell (by decide +kernel) ml_RL_80 rfl d_L_law_647 rfl (Nat.le_of_ble_eq_true rfl) (AMet.mono h (aw_toI (fun x98 σ97 h => ?_)))
      refine aw_aload_n (i := 2) d_L_law_650 rfl rfl ?_
      refine aw_aload_n (i := 0) d_L_law_651 rfl rfl ?_
      refine aw_iload (i := 4) d_L_law_652 rfl ?_
      refine aw_iconst (x := 1) d_L_law_654 (by decide) ?_
      refine aw_iadd d_L_law_655 ?_
      obtain ⟨hq, h⟩ := h
      refine aw_iald d_L_law_656 (by decide) hq ?_
      refine aw_aload_n (i := 0) d_L_law_657 rfl rfl ?_
      refine aw_iload (i := 4) d_L_law_658 rfl ?_
      refine aw_iconst (x := 2) d_L_law_660 (by decide) ?_
      refine aw_iadd d_L_law_661 ?_
      obtain ⟨hq, h⟩ := h
      refine aw_iald d_L_law_662 (by decide) hq ?_
      refine aw_callV0 (as := [xI (gA σ97 27 v0 (v4 + 1).toNatClampNeg), xI (gA σ97 27 v0 (v4 + 2).toNatClampNeg)]) mw_X12_tell (by decide +kernel) ml_RL_83 rfl d_L_law_663 rfl (Nat.le_of_ble_eq_true rfl) (AMet.mono h (aw_toI (fun x100 σ99 h => ?_)))
      refine aw_icmp_eq (tgt := 999) d_L_law_666 (by decide) (fun c => ?_) (fun c => ?_)
      · have h := h.1 c
        refine aw_iinc (i := 4) (v := v4 + 6) d_L_law_999 rfl rfl (by decide) ?_
        refine aw_goto (tgt := 23) d_L_law_1002 (by decide) ?_
        exact h
      · have h := h.2 c
        refine aw_iconst (x := 0) d_L_law_669 (by decide) ?_
        exact aw_ret d_L_law_670 rfl (by decide) h
    by_cases c15 : ((gA σ 27 v0 v4.toNatClampNeg) &&& 31) = 15
    · have c := c15
      have h := h.2.2.2.2.2.2.2.2.2.2.2.2.2.2.2.1 c
      refine aw_sw (k := 15) (off := 631) (tgt := 671) d_L_law_40 c (by decide) (by decide) (by decide) (by decide) ?_
      refine aw_aload_n (i := 1) d_L_law_671 rfl rfl ?_
      refine aw_aload_n (i := 0) d_L_law_672 rfl rfl ?_
      refine aw_iload (i := 4) d_L_law_673 rfl ?_
      refine aw_iconst (x := 1) d_L_law_675 (by decide) ?_
      refine aw_iadd d_L_law_676 ?_
      obtain ⟨hq, h⟩ := h
      refine aw_iald d_L_law_677 (by decide) hq ?_
      refine aw_aload_n (i := 0) d_L_law_678 rfl rfl ?_
      refine aw_iload (i := 4) d_L_law_679 rfl ?_
      refine aw_iconst (x := 2) d_L_law_681 (by decide) ?_
      refine aw_iadd d_L_law_682 ?_
      obtain ⟨hq, h⟩ := h
      refine aw_iald d_L_law_683 (by decide) hq ?_
      refine aw_aload_n (i := 0) d_L_law_684 rfl rfl ?_
      refine aw_iload (i := 4) d_L_law_685 rfl ?_
      refine aw_iconst (x := 3) d_L_law_687 (by decide) ?_
      refine aw_iadd d_L_law_688 ?_
      obtain ⟨hq, h⟩ := h
      refine aw_iald d_L_law_689 (by decide) hq ?_
      refine aw_aload_n (i := 3) d_L_law_690 rfl rfl ?_
      obtain ⟨mc104, ms105, kk102, nn103, ek, en, h⟩ := h
      rw [ek, en]
      refine aw_callSW (M' := M_L_seen) (n := 5) (as := [xR (some (12, v1)), xI (gA σ 27 v0 (v4 + 1).toNatClampNeg), xI (gA σ 27 v0 (v4 + 2).toNatClampNeg), xI (gA σ 27 v0 (v4 + 3).toNatClampNeg), xR (some (24, v3))]) (tw_of ls_words.2.2.1 ls_words.2.2.2.1) (tw_of ls_words.2.2.2.2.1 ls_words.2.2.2.2.2) (by decide) (by decide +kernel) ml_RL_84 rfl d_L_law_691 rfl (Nat.le_of_ble_eq_true rfl) (AMetW.mono h (aw_toI (fun x106 σ101 h => ?_)))
      refine aw_istore (i := 5) d_L_law_694 (by decide) ?_
      refine aw_aload_n (i := 2) d_L_law_696 rfl rfl ?_
      refine aw_aload_n (i := 0) d_L_law_697 rfl rfl ?_
      refine aw_iload (i := 4) d_L_law_698 rfl ?_
      refine aw_iconst (x := 1) d_L_law_700 (by decide) ?_
      refine aw_iadd d_L_law_701 ?_
      obtain ⟨hq, h⟩ := h
      refine aw_iald d_L_law_702 (by decide) hq ?_
      refine aw_aload_n (i := 0) d_L_law_703 rfl rfl ?_
      refine aw_iload (i := 4) d_L_law_704 rfl ?_
      refine aw_iconst (x := 2) d_L_law_706 (by decide) ?_
      refine aw_iadd d_L_law_707 ?_
      obtain ⟨hq, h⟩ := h
      refine aw_iald d_L_law_708 (by decide) hq ?_
      refine aw_aload_n (i := 0) d_L_law_709 rfl rfl ?_
      refine aw_iload (i := 4) d_L_law_710 rfl ?_
      refine aw_iconst (x := 3) d_L_law_712 (by decide) ?_
      refine aw_iadd d_L_law_713 ?_
      obtain ⟨hq, h⟩ := h
      refine aw_iald d_L_law_714 (by decide) hq ?_
      refine aw_callV0 (as := [xI (gA σ101 27 v0 (v4 + 1).toNatClampNeg), xI (gA σ101 27 v0 (v4 + 2).toNatClampNeg), xI (gA σ101 27 v0 (v4 + 3).toNatClampNeg)]) mw_X12_seen (by decide +kernel) ml_RL_89 rfl d_L_law_715 rfl (Nat.le_of_ble_eq_true rfl) (AMet.mono h (aw_toI (fun x108 σ107 h => ?_)))
      refine aw_istore (i := 6) d_L_law_718 (by decide) ?_
      refine aw_aload_n (i := 2) d_L_law_720 rfl rfl ?_
      refine aw_callV0 (as := []) mw_X12_thrown (by decide +kernel) ml_RL_90 rfl d_L_law_721 rfl (Nat.le_of_ble_eq_true rfl) (AMet.mono h (aw_toI (fun x110 σ109 h => ?_)))
      refine aw_iload (i := 5) d_L_law_724 rfl ?_
      refine aw_icmp_eq (tgt := 731) d_L_law_726 (by decide) (fun c => ?_) (fun c => ?_)
      · have h := h.1 c
        refine aw_iload (i := 5) d_L_law_731 rfl ?_
        refine aw_if_ne (tgt := 748) d_L_law_733 (by decide) (fun c => ?_) (fun c => ?_)
        · have h := h.1 c
          refine aw_goto (tgt := 999) d_L_law_748 (by decide) ?_
          refine aw_iinc (i := 4) (v := v4 + 6) d_L_law_999 rfl rfl (by decide) ?_
          refine aw_goto (tgt := 23) d_L_law_1002 (by decide) ?_
          exact AW.weak h (by exact ⟨rfl, ⟨rfl, ⟨rfl, ⟨rfl, ⟨rfl, trivial⟩⟩⟩⟩⟩)
        · have h := h.2 c
          refine aw_aload_n (i := 3) d_L_law_736 rfl rfl ?_
          refine aw_iconst (x := 0) d_L_law_737 (by decide) ?_
          obtain ⟨hq, h⟩ := h
          refine aw_lald d_L_law_738 hq ?_
          refine aw_iload (i := 6) d_L_law_739 rfl ?_
          refine aw_i2l d_L_law_741 rfl ?_
          refine aw_lcmp d_L_law_742 ?_
          refine aw_if_eq (tgt := 748) d_L_law_743 (by decide) (fun c => ?_) (fun c => ?_)
          · have h := h.1 c
            refine aw_goto (tgt := 999) d_L_law_748 (by decide) ?_
            refine aw_iinc (i := 4) (v := v4 + 6) d_L_law_999 rfl rfl (by decide) ?_
            refine aw_goto (tgt := 23) d_L_law_1002 (by decide) ?_
            exact AW.weak h (by exact ⟨rfl, ⟨rfl, ⟨rfl, ⟨rfl, ⟨rfl, trivial⟩⟩⟩⟩⟩)
          · have h := h.2 c
            refine aw_iconst (x := 0) d_L_law_746 (by decide) ?_
            exact aw_ret d_L_law_747 rfl (by decide) h
      · have h := h.2 c
        refine aw_iconst (x := 0) d_L_law_729 (by decide) ?_
        exact aw_ret d_L_law_730 rfl (by decide) h
    by_cases c16 : ((gA σ 27 v0 v4.toNatClampNeg) &&& 31) = 16
    · have c := c16
      have h := h.2.2.2.2.2.2.2.2.2.2.2.2.2.2.2.2.1 c
      refine aw_sw (k := 16) (off := 711) (tgt := 751) d_L_law_40 c (by decide) (by decide) (by decide) (by decide) ?_
      refine aw_aload_n (i := 1) d_L_law_751 rfl rfl ?_
      refine aw_aload_n (i := 0) d_L_law_752 rfl rfl ?_
      refine aw_iload (i := 4) d_L_law_753 rfl ?_
      refine aw_iconst (x := 1) d_L_law_755 (by decide) ?_
      refine aw_iadd d_L_law_756 ?_
      obtain ⟨hq, h⟩ := h
      refine aw_iald d_L_law_757 (by decide) hq ?_
      refine aw_aload_n (i := 0) d_L_law_758 rfl rfl ?_
      refine aw_iload (i := 4) d_L_law_759 rfl ?_
      refine aw_iconst (x := 2) d_L_law_761 (by decide) ?_
      refine aw_iadd d_L_law_762 ?_
      obtain ⟨hq, h⟩ := h
      refine aw_iald d_L_law_763 (by decide) hq ?_
      refine aw_callV0 (as := [xI (gA σ 27 v0 (v4 + 1).toNatClampNeg), xI (gA σ 27 v0 (v4 + 2).toNatClampNeg)]) mw_X11_retake (by decide +kernel) ml_RL_93 rfl d_L_law_764 rfl (Nat.le_of_ble_eq_true rfl) (AMet.mono h (aw_toI (fun x112 σ111 h => ?_)))
      refine aw_aload_n (i := 2) d_L_law_767 rfl rfl ?_
      refine aw_aload_n (i := 0) d_L_law_768 rfl rfl ?_
      refine aw_iload (i := 4) d_L_law_769 rfl ?_
      refine aw_iconst (x := 1) d_L_law_771 (by decide) ?_
      refine aw_iadd d_L_law_772 ?_
      obtain ⟨hq, h⟩ := h
      refine aw_iald d_L_law_773 (by decide) hq ?_
      refine aw_aload_n (i := 0) d_L_law_774 rfl rfl ?_
      refine aw_iload (i := 4) d_L_law_775 rfl ?_
      refine aw_iconst (x := 2) d_L_law_777 (by decide) ?_
      refine aw_iadd d_L_law_778 ?_
      obtain ⟨hq, h⟩ := h
      refine aw_iald d_L_law_779 (by decide) hq ?_
      refine aw_callV0 (as := [xI (gA σ111 27 v0 (v4 + 1).toNatClampNeg), xI (gA σ111 27 v0 (v4 + 2).toNatClampNeg)]) mw_X12_retake (by decide +kernel) ml_RL_96 rfl d_L_law_780 rfl (Nat.le_of_ble_eq_true rfl) (AMet.mono h (aw_toI (fun x114 σ113 h => ?_)))
      refine aw_icmp_eq (tgt := 999) d_L_law_783 (by decide) (fun c => ?_) (fun c => ?_)
      · have h := h.1 c
        refine aw_iinc (i := 4) (v := v4 + 6) d_L_law_999 rfl rfl (by decide) ?_
        refine aw_goto (tgt := 23) d_L_law_1002 (by decide) ?_
        exact h
      · have h := h.2 c
        refine aw_iconst (x := 0) d_L_law_786 (by decide) ?_
        exact aw_ret d_L_law_787 rfl (by decide) h
    by_cases c17 : ((gA σ 27 v0 v4.toNatClampNeg) &&& 31) = 17
    · have c := c17
      have h := h.2.2.2.2.2.2.2.2.2.2.2.2.2.2.2.2.2.1 c
      refine aw_sw (k := 17) (off := 748) (tgt := 788) d_L_law_40 c (by decide) (by decide) (by decide) (by decide) ?_
      refine aw_aload_n (i := 1) d_L_law_788 rfl rfl ?_
      refine aw_aload_n (i := 0) d_L_law_789 rfl rfl ?_
      refine aw_iload (i := 4) d_L_law_790 rfl ?_
      refine aw_iconst (x := 1) d_L_law_792 (by decide) ?_
      refine aw_iadd d_L_law_793 ?_
      obtain ⟨hq, h⟩ := h
      refine aw_iald d_L_law_794 (by decide) hq ?_
      refine aw_callV0 (as := [xI (gA σ 27 v0 (v4 + 1).toNatClampNeg)]) mw_X11_lacks (by decide +kernel) ml_RL_97 rfl d_L_law_795 rfl (Nat.le_of_ble_eq_true rfl) (AMet.mono h (aw_toI (fun x116 σ115 h => ?_)))
      refine aw_aload_n (i := 2) d_L_law_798 rfl rfl ?_
      refine aw_aload_n (i := 0) d_L_law_799 rfl rfl ?_
      refine aw_iload (i := 4) d_L_law_800 rfl ?_
      refine aw_iconst (x := 1) d_L_law_802 (by decide) ?_
      refine aw_iadd d_L_law_803 ?_
      obtain ⟨hq, h⟩ := h
      refine aw_iald d_L_law_804 (by decide) hq ?_
      refine aw_callV0 (as := [xI (gA σ115 27 v0 (v4 + 1).toNatClampNeg)]) mw_X12_lacks (by decide +kernel) ml_RL_100 rfl d_L_law_805 rfl (Nat.le_of_ble_eq_true rfl) (AMet.mono h (aw_toI (fun x118 σ117 h => ?_)))
      refine aw_icmp_eq (tgt := 999) d_L_law_808 (by decide) (fun c => ?_) (fun c => ?_)
      · have h := h.1 c
        refine aw_iinc (i := 4) (v := v4 + 6) d_L_law_999 rfl rfl (by decide) ?_
        refine aw_goto (tgt := 23) d_L_law_1002 (by decide) ?_
        exact h
      · have h := h.2 c
        refine aw_iconst (x := 0) d_L_law_811 (by decide) ?_
        exact aw_ret d_L_law_812 rfl (by decide) h
    by_cases c18 : ((gA σ 27 v0 v4.toNatClampNeg) &&& 31) = 18
    · have c := c18
      have h := h.2.2.2.2.2.2.2.2.2.2.2.2.2.2.2.2.2.2.1 c
      refine aw_sw (k := 18) (off := 773) (tgt := 813) d_L_law_40 c (by decide) (by decide) (by decide) (by decide) ?_
      refine aw_aload_n (i := 1) d_L_law_813 rfl rfl ?_
      refine aw_aload_n (i := 0) d_L_law_814 rfl rfl ?_
      refine aw_iload (i := 4) d_L_law_815 rfl ?_
      refine aw_iconst (x := 1) d_L_law_817 (by decide) ?_
      refine aw_iadd d_L_law_818 ?_
      obtain ⟨hq, h⟩ := h
      refine aw_iald d_L_law_819 (by decide) hq ?_
      refine aw_aload_n (i := 0) d_L_law_820 rfl rfl ?_
      refine aw_iload (i := 4) d_L_law_821 rfl ?_
      refine aw_iconst (x := 2) d_L_law_823 (by decide) ?_
      refine aw_iadd d_L_law_824 ?_
      obtain ⟨hq, h⟩ := h
      refine aw_iald d_L_law_825 (by decide) hq ?_
      refine aw_callV0 (as := [xI (gA σ 27 v0 (v4 + 1).toNatClampNeg), xI (gA σ 27 v0 (v4 + 2).toNatClampNeg)]) mw_X11_buses (by decide +kernel) ml_RL_101 rfl d_L_law_826 rfl (Nat.le_of_ble_eq_true rfl) (AMet.mono h (aw_toI (fun x120 σ119 h => ?_)))
      refine aw_aload_n (i := 2) d_L_law_829 rfl rfl ?_
      refine aw_aload_n (i := 0) d_L_law_830 rfl rfl ?_
      refine aw_iload (i := 4) d_L_law_831 rfl ?_
      refine aw_iconst (x := 1) d_L_law_833 (by decide) ?_
      refine aw_iadd d_L_law_834 ?_
      obtain ⟨hq, h⟩ := h
      refine aw_iald d_L_law_835 (by decide) hq ?_
      refine aw_aload_n (i := 0) d_L_law_836 rfl rfl ?_
      refine aw_iload (i := 4) d_L_law_837 rfl ?_
      refine aw_iconst (x := 2) d_L_law_839 (by decide) ?_
      refine aw_iadd d_L_law_840 ?_
      obtain ⟨hq, h⟩ := h
      refine aw_iald d_L_law_841 (by decide) hq ?_
      refine aw_callV0 (as := [xI (gA σ119 27 v0 (v4 + 1).toNatClampNeg), xI (gA σ119 27 v0 (v4 + 2).toNatClampNeg)]) mw_X12_buses (by decide +kernel) ml_RL_104 rfl d_L_law_842 rfl (Nat.le_of_ble_eq_true rfl) (AMet.mono h (aw_toI (fun x122 σ121 h => ?_)))
      refine aw_icmp_eq (tgt := 999) d_L_law_845 (by decide) (fun c => ?_) (fun c => ?_)
      · have h := h.1 c
        refine aw_iinc (i := 4) (v := v4 + 6) d_L_law_999 rfl rfl (by decide) ?_
        refine aw_goto (tgt := 23) d_L_law_1002 (by decide) ?_
        exact h
      · have h := h.2 c
        refine aw_iconst (x := 0) d_L_law_848 (by decide) ?_
        exact aw_ret d_L_law_849 rfl (by decide) h
    by_cases c19 : ((gA σ 27 v0 v4.toNatClampNeg) &&& 31) = 19
    · have c := c19
      have h := h.2.2.2.2.2.2.2.2.2.2.2.2.2.2.2.2.2.2.2.1 c
      refine aw_sw (k := 19) (off := 810) (tgt := 850) d_L_law_40 c (by decide) (by decide) (by decide) (by decide) ?_
      refine aw_aload_n (i := 1) d_L_law_850 rfl rfl ?_
      refine aw_aload_n (i := 0) d_L_law_851 rfl rfl ?_
      refine aw_iload (i := 4) d_L_law_852 rfl ?_
      refine aw_iconst (x := 1) d_L_law_854 (by decide) ?_
      refine aw_iadd d_L_law_855 ?_
      obtain ⟨hq, h⟩ := h
      refine aw_iald d_L_law_856 (by decide) hq ?_
      refine aw_aload_n (i := 0) d_L_law_857 rfl rfl ?_
      refine aw_iload (i := 4) d_L_law_858 rfl ?_
      refine aw_iconst (x := 2) d_L_law_860 (by decide) ?_
      refine aw_iadd d_L_law_861 ?_
      obtain ⟨hq, h⟩ := h
      refine aw_iald d_L_law_862 (by decide) hq ?_
      refine aw_callV0 (as := [xI (gA σ 27 v0 (v4 + 1).toNatClampNeg), xI (gA σ 27 v0 (v4 + 2).toNatClampNeg)]) mw_X11_ask (by decide +kernel) ml_RL_105 rfl d_L_law_863 rfl (Nat.le_of_ble_eq_true rfl) (AMet.mono h (aw_toI (fun x124 σ123 h => ?_)))
      refine aw_aload_n (i := 2) d_L_law_866 rfl rfl ?_
      refine aw_aload_n (i := 0) d_L_law_867 rfl rfl ?_
      refine aw_iload (i := 4) d_L_law_868 rfl ?_
      refine aw_iconst (x := 1) d_L_law_870 (by decide) ?_
      refine aw_iadd d_L_law_871 ?_
      obtain ⟨hq, h⟩ := h
      refine aw_iald d_L_law_872 (by decide) hq ?_
      refine aw_aload_n (i := 0) d_L_law_873 rfl rfl ?_
      refine aw_iload (i := 4) d_L_law_874 rfl ?_
      refine aw_iconst (x := 2) d_L_law_876 (by decide) ?_
      refine aw_iadd d_L_law_877 ?_
      obtain ⟨hq, h⟩ := h
      refine aw_iald d_L_law_878 (by decide) hq ?_
      refine aw_callV0 (as := [xI (gA σ123 27 v0 (v4 + 1).toNatClampNeg), xI (gA σ123 27 v0 (v4 + 2).toNatClampNeg)]) mw_X12_ask (by decide +kernel) ml_RL_108 rfl d_L_law_879 rfl (Nat.le_of_ble_eq_true rfl) (AMet.mono h (aw_toI (fun x126 σ125 h => ?_)))
      refine aw_icmp_eq (tgt := 999) d_L_law_882 (by decide) (fun c => ?_) (fun c => ?_)
      · have h := h.1 c
        refine aw_iinc (i := 4) (v := v4 + 6) d_L_law_999 rfl rfl (by decide) ?_
        refine aw_goto (tgt := 23) d_L_law_1002 (by decide) ?_
        exact h
      · have h := h.2 c
        refine aw_iconst (x := 0) d_L_law_885 (by decide) ?_
        exact aw_ret d_L_law_886 rfl (by decide) h
    by_cases c20 : ((gA σ 27 v0 v4.toNatClampNeg) &&& 31) = 20
    · have c := c20
      have h := h.2.2.2.2.2.2.2.2.2.2.2.2.2.2.2.2.2.2.2.2.1 c
      refine aw_sw (k := 20) (off := 847) (tgt := 887) d_L_law_40 c (by decide) (by decide) (by decide) (by decide) ?_
      refine aw_aload_n (i := 1) d_L_law_887 rfl rfl ?_
      refine aw_aload_n (i := 0) d_L_law_888 rfl rfl ?_
      refine aw_iload (i := 4) d_L_law_889 rfl ?_
      refine aw_iconst (x := 1) d_L_law_891 (by decide) ?_
      refine aw_iadd d_L_law_892 ?_
      obtain ⟨hq, h⟩ := h
      refine aw_iald d_L_law_893 (by decide) hq ?_
      refine aw_aload_n (i := 0) d_L_law_894 rfl rfl ?_
      refine aw_iload (i := 4) d_L_law_895 rfl ?_
      refine aw_iconst (x := 2) d_L_law_897 (by decide) ?_
      refine aw_iadd d_L_law_898 ?_
      obtain ⟨hq, h⟩ := h
      refine aw_iald d_L_law_899 (by decide) hq ?_
      refine aw_callV0 (as := [xI (gA σ 27 v0 (v4 + 1).toNatClampNeg), xI (gA σ 27 v0 (v4 + 2).toNatClampNeg)]) mw_X11_about (by decide +kernel) ml_RL_109 rfl d_L_law_900 rfl (Nat.le_of_ble_eq_true rfl) (AMet.mono h (aw_toI (fun x128 σ127 h => ?_)))
      refine aw_aload_n (i := 2) d_L_law_903 rfl rfl ?_
      refine aw_aload_n (i := 0) d_L_law_904 rfl rfl ?_
      refine aw_iload (i := 4) d_L_law_905 rfl ?_
      refine aw_iconst (x := 1) d_L_law_907 (by decide) ?_
      refine aw_iadd d_L_law_908 ?_
      obtain ⟨hq, h⟩ := h
      refine aw_iald d_L_law_909 (by decide) hq ?_
      refine aw_aload_n (i := 0) d_L_law_910 rfl rfl ?_
      refine aw_iload (i := 4) d_L_law_911 rfl ?_
      refine aw_iconst (x := 2) d_L_law_913 (by decide) ?_
      refine aw_iadd d_L_law_914 ?_
      obtain ⟨hq, h⟩ := h
      refine aw_iald d_L_law_915 (by decide) hq ?_
      refine aw_callV0 (as := [xI (gA σ127 27 v0 (v4 + 1).toNatClampNeg), xI (gA σ127 27 v0 (v4 + 2).toNatClampNeg)]) mw_X12_about (by decide +kernel) ml_RL_112 rfl d_L_law_916 rfl (Nat.le_of_ble_eq_true rfl) (AMet.mono h (aw_toI (fun x130 σ129 h => ?_)))
      refine aw_icmp_eq (tgt := 999) d_L_law_919 (by decide) (fun c => ?_) (fun c => ?_)
      · have h := h.1 c
        refine aw_iinc (i := 4) (v := v4 + 6) d_L_law_999 rfl rfl (by decide) ?_
        refine aw_goto (tgt := 23) d_L_law_1002 (by decide) ?_
        exact h
      · have h := h.2 c
        refine aw_iconst (x := 0) d_L_law_922 (by decide) ?_
        exact aw_ret d_L_law_923 rfl (by decide) h
    by_cases c21 : ((gA σ 27 v0 v4.toNatClampNeg) &&& 31) = 21
    · have c := c21
      have h := h.2.2.2.2.2.2.2.2.2.2.2.2.2.2.2.2.2.2.2.2.2.1 c
      refine aw_sw (k := 21) (off := 884) (tgt := 924) d_L_law_40 c (by decide) (by decide) (by decide) (by decide) ?_
      refine aw_aload_n (i := 1) d_L_law_924 rfl rfl ?_
      refine aw_aload_n (i := 0) d_L_law_925 rfl rfl ?_
      refine aw_iload (i := 4) d_L_law_926 rfl ?_
      refine aw_iconst (x := 1) d_L_law_928 (by decide) ?_
      refine aw_iadd d_L_law_929 ?_
      obtain ⟨hq, h⟩ := h
      refine aw_iald d_L_law_930 (by decide) hq ?_
      refine aw_aload_n (i := 0) d_L_law_931 rfl rfl ?_
      refine aw_iload (i := 4) d_L_law_932 rfl ?_
      refine aw_iconst (x := 2) d_L_law_934 (by decide) ?_
      refine aw_iadd d_L_law_935 ?_
      obtain ⟨hq, h⟩ := h
      refine aw_iald d_L_law_936 (by decide) hq ?_
      refine aw_aload_n (i := 0) d_L_law_937 rfl rfl ?_
      refine aw_iload (i := 4) d_L_law_938 rfl ?_
      refine aw_iconst (x := 3) d_L_law_940 (by decide) ?_
      refine aw_iadd d_L_law_941 ?_
      obtain ⟨hq, h⟩ := h
      refine aw_iald d_L_law_942 (by decide) hq ?_
      refine aw_callV0 (as := [xI (gA σ 27 v0 (v4 + 1).toNatClampNeg), xI (gA σ 27 v0 (v4 + 2).toNatClampNeg), xI (gA σ 27 v0 (v4 + 3).toNatClampNeg)]) mw_X11_pay (by decide +kernel) ml_RL_113 rfl d_L_law_943 rfl (Nat.le_of_ble_eq_true rfl) (AMet.mono h (aw_toL (fun x132 σ131 h => ?_)))
      refine aw_aload_n (i := 2) d_L_law_946 rfl rfl ?_
      refine aw_aload_n (i := 0) d_L_law_947 rfl rfl ?_
      refine aw_iload (i := 4) d_L_law_948 rfl ?_
      refine aw_iconst (x := 1) d_L_law_950 (by decide) ?_
      refine aw_iadd d_L_law_951 ?_
      obtain ⟨hq, h⟩ := h
      refine aw_iald d_L_law_952 (by decide) hq ?_
      refine aw_aload_n (i := 0) d_L_law_953 rfl rfl ?_
      refine aw_iload (i := 4) d_L_law_954 rfl ?_
      refine aw_iconst (x := 2) d_L_law_956 (by decide) ?_
      refine aw_iadd d_L_law_957 ?_
      obtain ⟨hq, h⟩ := h
      refine aw_iald d_L_law_958 (by decide) hq ?_
      refine aw_aload_n (i := 0) d_L_law_959 rfl rfl ?_
      refine aw_iload (i := 4) d_L_law_960 rfl ?_
      refine aw_iconst (x := 3) d_L_law_962 (by decide) ?_
      refine aw_iadd d_L_law_963 ?_
      obtain ⟨hq, h⟩ := h
      refine aw_iald d_L_law_964 (by decide) hq ?_
      refine aw_callV0 (as := [xI (gA σ131 27 v0 (v4 + 1).toNatClampNeg), xI (gA σ131 27 v0 (v4 + 2).toNatClampNeg), xI (gA σ131 27 v0 (v4 + 3).toNatClampNeg)]) mw_X12_pay (by decide +kernel) ml_RL_117 rfl d_L_law_965 rfl (Nat.le_of_ble_eq_true rfl) (AMet.mono h (aw_toL (fun x134 σ133 h => ?_)))
      refine aw_lcmp d_L_law_968 ?_
      refine aw_if_eq (tgt := 999) d_L_law_969 (by decide) (fun c => ?_) (fun c => ?_)
      · have h := h.1 c
        refine aw_iinc (i := 4) (v := v4 + 6) d_L_law_999 rfl rfl (by decide) ?_
        refine aw_goto (tgt := 23) d_L_law_1002 (by decide) ?_
        exact h
      · have h := h.2 c
        refine aw_iconst (x := 0) d_L_law_972 (by decide) ?_
        exact aw_ret d_L_law_973 rfl (by decide) h
    by_cases c22 : ((gA σ 27 v0 v4.toNatClampNeg) &&& 31) = 22
    · have c := c22
      have h := h.2.2.2.2.2.2.2.2.2.2.2.2.2.2.2.2.2.2.2.2.2.2.1 c
      refine aw_sw (k := 22) (off := 934) (tgt := 974) d_L_law_40 c (by decide) (by decide) (by decide) (by decide) ?_
      refine aw_aload_n (i := 1) d_L_law_974 rfl rfl ?_
      refine aw_aload_n (i := 0) d_L_law_975 rfl rfl ?_
      refine aw_iload (i := 4) d_L_law_976 rfl ?_
      refine aw_iconst (x := 1) d_L_law_978 (by decide) ?_
      refine aw_iadd d_L_law_979 ?_
      obtain ⟨hq, h⟩ := h
      refine aw_iald d_L_law_980 (by decide) hq ?_
      refine aw_callV0 (as := [xI (gA σ 27 v0 (v4 + 1).toNatClampNeg)]) mw_X11_count (by decide +kernel) ml_RL_118 rfl d_L_law_981 rfl (Nat.le_of_ble_eq_true rfl) (AMet.mono h (aw_toI (fun x136 σ135 h => ?_)))
      refine aw_aload_n (i := 2) d_L_law_984 rfl rfl ?_
      refine aw_aload_n (i := 0) d_L_law_985 rfl rfl ?_
      refine aw_iload (i := 4) d_L_law_986 rfl ?_
      refine aw_iconst (x := 1) d_L_law_988 (by decide) ?_
      refine aw_iadd d_L_law_989 ?_
      obtain ⟨hq, h⟩ := h
      refine aw_iald d_L_law_990 (by decide) hq ?_
      refine aw_callV0 (as := [xI (gA σ135 27 v0 (v4 + 1).toNatClampNeg)]) mw_X12_count (by decide +kernel) ml_RL_121 rfl d_L_law_991 rfl (Nat.le_of_ble_eq_true rfl) (AMet.mono h (aw_toI (fun x138 σ137 h => ?_)))
      refine aw_icmp_eq (tgt := 999) d_L_law_994 (by decide) (fun c => ?_) (fun c => ?_)
      · have h := h.1 c
        refine aw_iinc (i := 4) (v := v4 + 6) d_L_law_999 rfl rfl (by decide) ?_
        refine aw_goto (tgt := 23) d_L_law_1002 (by decide) ?_
        exact h
      · have h := h.2 c
        refine aw_iconst (x := 0) d_L_law_997 (by decide) ?_
        exact aw_ret d_L_law_998 rfl (by decide) h
    have c : ((gA σ 27 v0 v4.toNatClampNeg) &&& 31).toInt < 0 ∨ 22 < ((gA σ 27 v0 v4.toNatClampNeg) &&& 31).toInt := by
      have q0 : ¬ ((gA σ 27 v0 v4.toNatClampNeg) &&& 31).toInt = 0 := fun e => c0 (i32_eq (e.trans (by decide)))
      have q1 : ¬ ((gA σ 27 v0 v4.toNatClampNeg) &&& 31).toInt = 1 := fun e => c1 (i32_eq (e.trans (by decide)))
      have q2 : ¬ ((gA σ 27 v0 v4.toNatClampNeg) &&& 31).toInt = 2 := fun e => c2 (i32_eq (e.trans (by decide)))
      have q3 : ¬ ((gA σ 27 v0 v4.toNatClampNeg) &&& 31).toInt = 3 := fun e => c3 (i32_eq (e.trans (by decide)))
      have q4 : ¬ ((gA σ 27 v0 v4.toNatClampNeg) &&& 31).toInt = 4 := fun e => c4 (i32_eq (e.trans (by decide)))
      have q5 : ¬ ((gA σ 27 v0 v4.toNatClampNeg) &&& 31).toInt = 5 := fun e => c5 (i32_eq (e.trans (by decide)))
      have q6 : ¬ ((gA σ 27 v0 v4.toNatClampNeg) &&& 31).toInt = 6 := fun e => c6 (i32_eq (e.trans (by decide)))
      have q7 : ¬ ((gA σ 27 v0 v4.toNatClampNeg) &&& 31).toInt = 7 := fun e => c7 (i32_eq (e.trans (by decide)))
      have q8 : ¬ ((gA σ 27 v0 v4.toNatClampNeg) &&& 31).toInt = 8 := fun e => c8 (i32_eq (e.trans (by decide)))
      have q9 : ¬ ((gA σ 27 v0 v4.toNatClampNeg) &&& 31).toInt = 9 := fun e => c9 (i32_eq (e.trans (by decide)))
      have q10 : ¬ ((gA σ 27 v0 v4.toNatClampNeg) &&& 31).toInt = 10 := fun e => c10 (i32_eq (e.trans (by decide)))
      have q11 : ¬ ((gA σ 27 v0 v4.toNatClampNeg) &&& 31).toInt = 11 := fun e => c11 (i32_eq (e.trans (by decide)))
      have q12 : ¬ ((gA σ 27 v0 v4.toNatClampNeg) &&& 31).toInt = 12 := fun e => c12 (i32_eq (e.trans (by decide)))
      have q13 : ¬ ((gA σ 27 v0 v4.toNatClampNeg) &&& 31).toInt = 13 := fun e => c13 (i32_eq (e.trans (by decide)))
      have q14 : ¬ ((gA σ 27 v0 v4.toNatClampNeg) &&& 31).toInt = 14 := fun e => c14 (i32_eq (e.trans (by decide)))
      have q15 : ¬ ((gA σ 27 v0 v4.toNatClampNeg) &&& 31).toInt = 15 := fun e => c15 (i32_eq (e.trans (by decide)))
      have q16 : ¬ ((gA σ 27 v0 v4.toNatClampNeg) &&& 31).toInt = 16 := fun e => c16 (i32_eq (e.trans (by decide)))
      have q17 : ¬ ((gA σ 27 v0 v4.toNatClampNeg) &&& 31).toInt = 17 := fun e => c17 (i32_eq (e.trans (by decide)))
      have q18 : ¬ ((gA σ 27 v0 v4.toNatClampNeg) &&& 31).toInt = 18 := fun e => c18 (i32_eq (e.trans (by decide)))
      have q19 : ¬ ((gA σ 27 v0 v4.toNatClampNeg) &&& 31).toInt = 19 := fun e => c19 (i32_eq (e.trans (by decide)))
      have q20 : ¬ ((gA σ 27 v0 v4.toNatClampNeg) &&& 31).toInt = 20 := fun e => c20 (i32_eq (e.trans (by decide)))
      have q21 : ¬ ((gA σ 27 v0 v4.toNatClampNeg) &&& 31).toInt = 21 := fun e => c21 (i32_eq (e.trans (by decide)))
      have q22 : ¬ ((gA σ 27 v0 v4.toNatClampNeg) &&& 31).toInt = 22 := fun e => c22 (i32_eq (e.trans (by decide)))
      omega
    have h := h.2.2.2.2.2.2.2.2.2.2.2.2.2.2.2.2.2.2.2.2.2.2.2 c
    refine aw_switchOut (tgt := 999) d_L_law_40 c (by decide) ?_
    refine aw_iinc (i := 4) (v := v4 + 6) d_L_law_999 rfl rfl (by decide) ?_
    refine aw_goto (tgt := 23) d_L_law_1002 (by decide) ?_
    exact h
