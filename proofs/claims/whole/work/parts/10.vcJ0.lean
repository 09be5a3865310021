set_option maxRecDepth 20000 in
theorem vc_J9_max_7cf53 {G : GG} {l : Launch} {d : Nat} {post : Option AVal → AS → Prop} {σ : AS} {kk nn : Nat} {a1 : Int32} {a2 : Int32} (h : (((a1 < a2 → post (some (xI a2)) σ)) ∧ ((¬ a1 < a2 → post (some (xI a1)) σ)))) : AW G l M_J9_max_7cf53 d post σ kk nn 0 [some (xI a1), some (xI a2)] [] := by
  refine aw_iload_n (i := 0) d_J9_max_7cf53_0 rfl rfl ?_
  refine aw_iload_n (i := 1) d_J9_max_7cf53_1 rfl rfl ?_
  refine aw_icmp_lt (tgt := 9) d_J9_max_7cf53_2 (by decide) (fun c => ?_) (fun c => ?_)
  · have h := h.1 c
    refine aw_iload_n (i := 1) d_J9_max_7cf53_9 rfl rfl ?_
    exact aw_ret d_J9_max_7cf53_10 rfl rfl h
  · have h := h.2 c
    refine aw_iload_n (i := 0) d_J9_max_7cf53_5 rfl rfl ?_
    refine aw_goto (tgt := 10) d_J9_max_7cf53_6 (by decide) ?_
    exact aw_ret d_J9_max_7cf53_10 rfl rfl h
set_option maxRecDepth 20000 in
theorem vc_J9_min_7cf53 {G : GG} {l : Launch} {d : Nat} {post : Option AVal → AS → Prop} {σ : AS} {kk nn : Nat} {a1 : Int32} {a2 : Int32} (h : (((a2 < a1 → post (some (xI a2)) σ)) ∧ ((¬ a2 < a1 → post (some (xI a1)) σ)))) : AW G l M_J9_min_7cf53 d post σ kk nn 0 [some (xI a1), some (xI a2)] [] := by
  refine aw_iload_n (i := 0) d_J9_min_7cf53_0 rfl rfl ?_
  refine aw_iload_n (i := 1) d_J9_min_7cf53_1 rfl rfl ?_
  refine aw_icmp_gt (tgt := 9) d_J9_min_7cf53_2 (by decide) (fun c => ?_) (fun c => ?_)
  · have h := h.1 c
    refine aw_iload_n (i := 1) d_J9_min_7cf53_9 rfl rfl ?_
    exact aw_ret d_J9_min_7cf53_10 rfl rfl h
  · have h := h.2 c
    refine aw_iload_n (i := 0) d_J9_min_7cf53_5 rfl rfl ?_
    refine aw_goto (tgt := 10) d_J9_min_7cf53_6 (by decide) ?_
    exact aw_ret d_J9_min_7cf53_10 rfl rfl h
set_option maxRecDepth 20000 in
theorem vc_Jxa1e45_init_da8c8 {G : GG} {l : Launch} {d : Nat} {post : Option AVal → AS → Prop} {σ : AS} {kk nn : Nat} {i0 : Nat} (h : post none σ) : AW G l M_Jxa1e45_init_da8c8 (d + 1) post σ kk nn 0 [some (xR (some (0, i0)))] [] := by
  refine aw_aload_n (i := 0) d_Jxa1e45_init_da8c8_0 rfl rfl ?_
  refine aw_objInit oi_RJxa1e45_1 d_Jxa1e45_init_da8c8_1 (Nat.le_of_ble_eq_true rfl) ?_
  exact aw_vret d_Jxa1e45_init_da8c8_4 rfl h
set_option maxRecDepth 20000 in
theorem vc_Jxc12de_init_da8c8 {G : GG} {l : Launch} {d : Nat} {post : Option AVal → AS → Prop} {σ : AS} {kk nn : Nat} {i0 : Nat} (h : AMet G l M_Jxa1e45_init_da8c8 d 0 0 [xR (some (0, i0))] σ (retV (fun σ1 => post none (sI σ1 0 0 i0 0)))) : AW G l M_Jxc12de_init_da8c8 (d + 1) post σ kk nn 0 [some (xR (some (0, i0)))] [] := by
  refine aw_aload_n (i := 0) d_Jxc12de_init_da8c8_0 rfl rfl ?_
  refine aw_callI0 (as := []) mw_Jxa1e45_init_da8c8 rfl rfl ml_RJxc12de_1 rfl d_Jxc12de_init_da8c8_1 rfl (Nat.le_of_ble_eq_true rfl) (AMet.mono h (aw_toV (fun σ1 h => ?_)))
  refine aw_aload_n (i := 0) d_Jxc12de_init_da8c8_4 rfl rfl ?_
  refine aw_iconst (x := 0) d_Jxc12de_init_da8c8_5 (by decide) ?_
  refine aw_putI fl_RJxc12de_7 (by decide) (fin_no (r := (RJx4a65c, TJx4a65c, 3)) rfl rfl) d_Jxc12de_init_da8c8_6 rfl ⟨rfl, rfl⟩ ?_
  exact aw_vret d_Jxc12de_init_da8c8_9 rfl h
set_option maxRecDepth 20000 in
theorem vc_Jx4a65c_init_da8c8 {G : GG} {l : Launch} {d : Nat} {post : Option AVal → AS → Prop} {σ : AS} {kk nn : Nat} {i0 : Nat} (h : AMet G l M_Jxc12de_init_da8c8 d 0 0 [xR (some (0, i0))] σ (retV (fun σ1 => post none (sR σ1 0 1 i0 (some (23, 0)))))) : AW G l M_Jx4a65c_init_da8c8 (d + 1) post σ kk nn 0 [some (xR (some (0, i0)))] [] := by
  refine aw_aload_n (i := 0) d_Jx4a65c_init_da8c8_0 rfl rfl ?_
  refine aw_callI0 (as := []) mw_Jxc12de_init_da8c8 rfl rfl ml_RJx4a65c_1 rfl d_Jx4a65c_init_da8c8_1 rfl (Nat.le_of_ble_eq_true rfl) (AMet.mono h (aw_toV (fun σ1 h => ?_)))
  refine aw_aload_n (i := 0) d_Jx4a65c_init_da8c8_4 rfl rfl ?_
  refine aw_getsE gs_RJx4a65c_39 d_Jx4a65c_init_da8c8_5 ?_
  refine aw_putR fl_RJx4a65c_9 (by decide) (fin_no (r := (RJx4a65c, TJx4a65c, 3)) rfl rfl) d_Jx4a65c_init_da8c8_8 rfl (by decide) ?_
  exact aw_vret d_Jx4a65c_init_da8c8_11 rfl h
set_option maxRecDepth 20000 in
theorem vc_Jx4a65c_grow_92f84 {G : GG} {l : Launch} {d : Nat} {post : Option AVal → AS → Prop} {σ : AS} {kk nn : Nat} {i0 : Nat} {a1 : Int32} (h : (∃ j1 : Nat, ((gR σ 0 1 i0) = some (23, j1) ∧ (((0 < (nI (gN σ 23 j1)) → AMet G l M_J8_newLength_cabcc d 0 0 [xI (nI (gN σ 23 j1)), xI (a1 - (nI (gN σ 23 j1))), xI ((nI (gN σ 23 j1)) >>> (1 &&& 31))] σ (retI (fun x3 σ2 => (∃ mc7 ms8 kk5 nn6 : Nat, (kk = kk5 + mc7 ∧ nn = nn6 + ms8 ∧ (AMet G l M_J7_copyOf_1904c d mc7 ms8 [xR (gR σ2 0 1 i0), xI x3] σ2 (retR (fun r9 σ4 => post (some (xR r9)) (sR σ4 0 1 i0 r9)))))))))) ∧ ((¬ 0 < (nI (gN σ 23 j1)) → ((((some (23, j1)) = (some (23, 0)) → (∃ N12 kk10 nn11 : Nat, ((if 10 < a1 then a1 else 10).toNatClampNeg = N12 ∧ ¬ (if 10 < a1 then a1 else 10) < 0 ∧ N12 ≤ 60000000 ∧ kk = kk10 + 1 ∧ nn = nn11 + N12 ∧ post (some (xR (some (23, (cnt σ 23))))) (sR (nA σ 23 N12) 0 1 i0 (some (23, (cnt σ 23)))))))) ∧ ((¬ (some (23, j1)) = (some (23, 0)) → AMet G l M_J8_newLength_cabcc d 0 0 [xI (nI (gN σ 23 j1)), xI (a1 - (nI (gN σ 23 j1))), xI ((nI (gN σ 23 j1)) >>> (1 &&& 31))] σ (retI (fun x14 σ13 => (∃ mc18 ms19 kk16 nn17 : Nat, (kk = kk16 + mc18 ∧ nn = nn17 + ms19 ∧ (AMet G l M_J7_copyOf_1904c d mc18 ms19 [xR (gR σ13 0 1 i0), xI x14] σ13 (retR (fun r20 σ15 => post (some (xR r20)) (sR σ15 0 1 i0 r20))))))))))))))))) : AW G l M_Jx4a65c_grow_92f84 (d + 1) post σ kk nn 0 [some (xR (some (0, i0))), some (xI a1), none, none] [] := by
  refine aw_aload_n (i := 0) d_Jx4a65c_grow_92f84_0 rfl rfl ?_
  refine aw_getR fl_RJx4a65c_9 rfl d_Jx4a65c_grow_92f84_1 ?_
  obtain ⟨j1, ej1, h⟩ := h
  rw [ej1]
  refine aw_alen d_Jx4a65c_grow_92f84_4 (by decide) ?_
  refine aw_istore_n (i := 2) d_Jx4a65c_grow_92f84_5 rfl (by decide) ?_
  refine aw_iload_n (i := 2) d_Jx4a65c_grow_92f84_6 rfl rfl ?_
  refine aw_if_gt (tgt := 20) d_Jx4a65c_grow_92f84_7 (by decide) (fun c => ?_) (fun c => ?_)
  · have h := h.1 c
    refine aw_iload_n (i := 2) d_Jx4a65c_grow_92f84_20 rfl rfl ?_
    refine aw_iload_n (i := 1) d_Jx4a65c_grow_92f84_21 rfl rfl ?_
    refine aw_iload_n (i := 2) d_Jx4a65c_grow_92f84_22 rfl rfl ?_
    refine aw_isub d_Jx4a65c_grow_92f84_23 ?_
    refine aw_iload_n (i := 2) d_Jx4a65c_grow_92f84_24 rfl rfl ?_
    refine aw_iconst (x := 1) d_Jx4a65c_grow_92f84_25 (by decide) ?_
    refine aw_ishr d_Jx4a65c_grow_92f84_26 ?_
    refine aw_callS0 (as := [xI (nI (gN σ 23 j1)), xI (a1 - (nI (gN σ 23 j1))), xI ((nI (gN σ 23 j1)) >>> (1 &&& 31))]) mw_J8_newLength_cabcc ml_RJx4a65c_73 rfl d_Jx4a65c_grow_92f84_27 rfl (Nat.le_of_ble_eq_true rfl) (AMet.mono h (aw_toI (fun x3 σ2 h => ?_)))
    refine aw_istore_n (i := 3) d_Jx4a65c_grow_92f84_30 rfl (by decide) ?_
    refine aw_aload_n (i := 0) d_Jx4a65c_grow_92f84_31 rfl rfl ?_
    refine aw_aload_n (i := 0) d_Jx4a65c_grow_92f84_32 rfl rfl ?_
    refine aw_getR fl_RJx4a65c_9 rfl d_Jx4a65c_grow_92f84_33 ?_
    refine aw_iload_n (i := 3) d_Jx4a65c_grow_92f84_36 rfl rfl ?_
    obtain ⟨mc7, ms8, kk5, nn6, ek, en, h⟩ := h
    rw [ek, en]
    refine aw_callS (as := [xR (gR σ2 0 1 i0), xI x3]) mw_J7_copyOf_1904c ml_RJx4a65c_66 rfl d_Jx4a65c_grow_92f84_37 rfl (Nat.le_of_ble_eq_true rfl) (AMet.mono h (aw_toR (fun r9 σ4 h => ?_)))
    refine aw_dupx1R d_Jx4a65c_grow_92f84_40 ?_
    refine aw_putR fl_RJx4a65c_9 (by decide) (fin_no (r := (RJx4a65c, TJx4a65c, 3)) rfl rfl) d_Jx4a65c_grow_92f84_41 rfl (by decide) ?_
    exact aw_aret d_Jx4a65c_grow_92f84_44 rfl (Or.inr ⟨_, rfl⟩) h
  · have h := h.2 c
    refine aw_aload_n (i := 0) d_Jx4a65c_grow_92f84_10 rfl rfl ?_
    refine aw_getRv fl_RJx4a65c_9 rfl (r := (some (23, j1))) ej1 d_Jx4a65c_grow_92f84_11 ?_
    refine aw_getsE gs_RJx4a65c_39 d_Jx4a65c_grow_92f84_14 ?_
    refine aw_acmp_eq (tgt := 45) d_Jx4a65c_grow_92f84_17 (by decide) (fun n m e1 e2 => by cases e1; cases e2; by_cases hj : j1 = 0; exact Or.inr (Or.inr (by rw [hj])); exact Or.inl ⟨by simp [fixd]; exact hj, by show (23 : Nat) ≠ 31; decide⟩) (fun c => ?_) (fun c => ?_)
    · have h := h.1 c
      refine aw_aload_n (i := 0) d_Jx4a65c_grow_92f84_45 rfl rfl ?_
      refine aw_bipush (x := 10) d_Jx4a65c_grow_92f84_46 (by decide) ?_
      refine aw_iload_n (i := 1) d_Jx4a65c_grow_92f84_48 rfl rfl ?_
      refine aw_mmax ml_RJx4a65c_79 d_Jx4a65c_grow_92f84_49 (Nat.le_of_ble_eq_true rfl) ?_
      obtain ⟨N12, kk10, nn11, hN, hx, hb, ek, en, h⟩ := h
      rw [ek, en]
      refine aw_newobj (N := N12) hN cl_RJx4a65c_7 d_Jx4a65c_grow_92f84_52 hx hb ?_
      refine aw_dupx1R d_Jx4a65c_grow_92f84_55 ?_
      refine aw_putR fl_RJx4a65c_9 (by decide) (fin_no (r := (RJx4a65c, TJx4a65c, 3)) rfl rfl) d_Jx4a65c_grow_92f84_56 rfl (by decide) ?_
      exact aw_aret d_Jx4a65c_grow_92f84_59 rfl (Or.inr ⟨_, rfl⟩) h
    · have h := h.2 c
      refine aw_iload_n (i := 2) d_Jx4a65c_grow_92f84_20 rfl rfl ?_
      refine aw_iload_n (i := 1) d_Jx4a65c_grow_92f84_21 rfl rfl ?_
      refine aw_iload_n (i := 2) d_Jx4a65c_grow_92f84_22 rfl rfl ?_
      refine aw_isub d_Jx4a65c_grow_92f84_23 ?_
      refine aw_iload_n (i := 2) d_Jx4a65c_grow_92f84_24 rfl rfl ?_
      refine aw_iconst (x := 1) d_Jx4a65c_grow_92f84_25 (by decide) ?_
      refine aw_ishr d_Jx4a65c_grow_92f84_26 ?_
      refine aw_callS0 (as := [xI (nI (gN σ 23 j1)), xI (a1 - (nI (gN σ 23 j1))), xI ((nI (gN σ 23 j1)) >>> (1 &&& 31))]) mw_J8_newLength_cabcc ml_RJx4a65c_73 rfl d_Jx4a65c_grow_92f84_27 rfl (Nat.le_of_ble_eq_true rfl) (AMet.mono h (aw_toI (fun x14 σ13 h => ?_)))
      refine aw_istore_n (i := 3) d_Jx4a65c_grow_92f84_30 rfl (by decide) ?_
      refine aw_aload_n (i := 0) d_Jx4a65c_grow_92f84_31 rfl rfl ?_
      refine aw_aload_n (i := 0) d_Jx4a65c_grow_92f84_32 rfl rfl ?_
      refine aw_getR fl_RJx4a65c_9 rfl d_Jx4a65c_grow_92f84_33 ?_
      refine aw_iload_n (i := 3) d_Jx4a65c_grow_92f84_36 rfl rfl ?_
      obtain ⟨mc18, ms19, kk16, nn17, ek, en, h⟩ := h
      rw [ek, en]
      refine aw_callS (as := [xR (gR σ13 0 1 i0), xI x14]) mw_J7_copyOf_1904c ml_RJx4a65c_66 rfl d_Jx4a65c_grow_92f84_37 rfl (Nat.le_of_ble_eq_true rfl) (AMet.mono h (aw_toR (fun r20 σ15 h => ?_)))
      refine aw_dupx1R d_Jx4a65c_grow_92f84_40 ?_
      refine aw_putR fl_RJx4a65c_9 (by decide) (fin_no (r := (RJx4a65c, TJx4a65c, 3)) rfl rfl) d_Jx4a65c_grow_92f84_41 rfl (by decide) ?_
      exact aw_aret d_Jx4a65c_grow_92f84_44 rfl (Or.inr ⟨_, rfl⟩) h
set_option maxRecDepth 20000 in
theorem vc_Jx4a65c_grow_d5877 {G : GG} {l : Launch} {d : Nat} {post : Option AVal → AS → Prop} {σ : AS} {kk nn : Nat} {i0 : Nat} (h : (∃ mc4 ms5 kk2 nn3 : Nat, (kk = kk2 + mc4 ∧ nn = nn3 + ms5 ∧ (AMet G l M_Jx4a65c_grow_92f84 d mc4 ms5 [xR (some (0, i0)), xI ((gI σ 0 2 i0) + 1)] σ (retR (fun r6 σ1 => post (some (xR r6)) σ1)))))) : AW G l M_Jx4a65c_grow_d5877 (d + 1) post σ kk nn 0 [some (xR (some (0, i0)))] [] := by
  refine aw_aload_n (i := 0) d_Jx4a65c_grow_d5877_0 rfl rfl ?_
  refine aw_aload_n (i := 0) d_Jx4a65c_grow_d5877_1 rfl rfl ?_
  refine aw_getI fl_RJx4a65c_48 rfl d_Jx4a65c_grow_d5877_2 ?_
  refine aw_iconst (x := 1) d_Jx4a65c_grow_d5877_5 (by decide) ?_
  refine aw_iadd d_Jx4a65c_grow_d5877_6 ?_
  obtain ⟨mc4, ms5, kk2, nn3, ek, en, h⟩ := h
  rw [ek, en]
  refine aw_callV (as := [xI ((gI σ 0 2 i0) + 1)]) mw_Jx4a65c_grow_92f84 (by decide +kernel) ml_RJx4a65c_69 rfl d_Jx4a65c_grow_d5877_7 rfl (Nat.le_of_ble_eq_true rfl) (AMet.mono h (aw_toR (fun r6 σ1 h => ?_)))
  exact aw_aret d_Jx4a65c_grow_d5877_10 rfl (Or.inr ⟨_, rfl⟩) h
set_option maxRecDepth 20000 in
theorem vc_Jx4a65c_size_8abf5 {G : GG} {l : Launch} {d : Nat} {post : Option AVal → AS → Prop} {σ : AS} {kk nn : Nat} {i0 : Nat} (h : post (some (xI (gI σ 0 2 i0))) σ) : AW G l M_Jx4a65c_size_8abf5 d post σ kk nn 0 [some (xR (some (0, i0)))] [] := by
  refine aw_aload_n (i := 0) d_Jx4a65c_size_8abf5_0 rfl rfl ?_
  refine aw_getI fl_RJx4a65c_48 rfl d_Jx4a65c_size_8abf5_1 ?_
  exact aw_ret d_Jx4a65c_size_8abf5_4 rfl rfl h
set_option maxRecDepth 20000 in
theorem vc_Jx4a65c_isEmpty_aae02 {G : GG} {l : Launch} {d : Nat} {post : Option AVal → AS → Prop} {σ : AS} {kk nn : Nat} {i0 : Nat} (h : (((¬ (gI σ 0 2 i0) = 0 → post (some (xI 0)) σ)) ∧ (((gI σ 0 2 i0) = 0 → post (some (xI 1)) σ)))) : AW G l M_Jx4a65c_isEmpty_aae02 d post σ kk nn 0 [some (xR (some (0, i0)))] [] := by
  refine aw_aload_n (i := 0) d_Jx4a65c_isEmpty_aae02_0 rfl rfl ?_
  refine aw_getI fl_RJx4a65c_48 rfl d_Jx4a65c_isEmpty_aae02_1 ?_
  refine aw_if_ne (tgt := 11) d_Jx4a65c_isEmpty_aae02_4 (by decide) (fun c => ?_) (fun c => ?_)
  · have h := h.1 c
    refine aw_iconst (x := 0) d_Jx4a65c_isEmpty_aae02_11 (by decide) ?_
    exact aw_ret d_Jx4a65c_isEmpty_aae02_12 rfl (by decide) h
  · have h := h.2 c
    refine aw_iconst (x := 1) d_Jx4a65c_isEmpty_aae02_7 (by decide) ?_
    refine aw_goto (tgt := 12) d_Jx4a65c_isEmpty_aae02_8 (by decide) ?_
    exact aw_ret d_Jx4a65c_isEmpty_aae02_12 rfl (by decide) h
set_option maxRecDepth 20000 in
theorem vc_Jx4a65c_elementData_915e3 {G : GG} {l : Launch} {d : Nat} {post : Option AVal → AS → Prop} {σ : AS} {kk nn : Nat} {i0 : Nat} {a1 : Int32} (h : (∃ j1 : Nat, ((gR σ 0 1 i0) = some (23, j1) ∧ (vp_in a1 (gN σ 23 j1) ∧ post (some (xR (gQ σ 23 j1 a1.toNatClampNeg))) σ)))) : AW G l M_Jx4a65c_elementData_915e3 d post σ kk nn 0 [some (xR (some (0, i0))), some (xI a1)] [] := by
  refine aw_aload_n (i := 0) d_Jx4a65c_elementData_915e3_0 rfl rfl ?_
  refine aw_getR fl_RJx4a65c_9 rfl d_Jx4a65c_elementData_915e3_1 ?_
  refine aw_iload_n (i := 1) d_Jx4a65c_elementData_915e3_4 rfl rfl ?_
  obtain ⟨j1, ej1, h⟩ := h
  rw [ej1]
  obtain ⟨hq, h⟩ := h
  refine aw_aald d_Jx4a65c_elementData_915e3_5 hq ?_
  exact aw_aret d_Jx4a65c_elementData_915e3_6 rfl (Or.inl ⟨_, rfl⟩) h
set_option maxRecDepth 20000 in
theorem vc_Jx4a65c_get_915e3 {G : GG} {l : Launch} {d : Nat} {post : Option AVal → AS → Prop} {σ : AS} {kk nn : Nat} {i0 : Nat} {a1 : Int32} (h : AMet G l M_J15_checkIndex_7cf53 d 0 0 [xI a1, xI (gI σ 0 2 i0)] σ (retI (fun x2 σ1 => AMet G l M_Jx4a65c_elementData_915e3 d 0 0 [xR (some (0, i0)), xI a1] σ1 (retR (fun r4 σ3 => post (some (xR r4)) σ3))))) : AW G l M_Jx4a65c_get_915e3 (d + 1) post σ kk nn 0 [some (xR (some (0, i0))), some (xI a1)] [] := by
  refine aw_iload_n (i := 1) d_Jx4a65c_get_915e3_0 rfl rfl ?_
  refine aw_aload_n (i := 0) d_Jx4a65c_get_915e3_1 rfl rfl ?_
  refine aw_getI fl_RJx4a65c_48 rfl d_Jx4a65c_get_915e3_2 ?_
  refine aw_callS0 (as := [xI a1, xI (gI σ 0 2 i0)]) mw_J15_checkIndex_7cf53 ml_RJx4a65c_118 rfl d_Jx4a65c_get_915e3_5 rfl (Nat.le_of_ble_eq_true rfl) (AMet.mono h (aw_toI (fun x2 σ1 h => ?_)))
  refine aw_popI d_Jx4a65c_get_915e3_8 ?_
  refine aw_aload_n (i := 0) d_Jx4a65c_get_915e3_9 rfl rfl ?_
  refine aw_iload_n (i := 1) d_Jx4a65c_get_915e3_10 rfl rfl ?_
  refine aw_callV0 (as := [xI a1]) mw_Jx4a65c_elementData_915e3 (by decide +kernel) ml_RJx4a65c_123 rfl d_Jx4a65c_get_915e3_11 rfl (Nat.le_of_ble_eq_true rfl) (AMet.mono h (aw_toR (fun r4 σ3 h => ?_)))
  exact aw_aret d_Jx4a65c_get_915e3_14 rfl (Or.inl ⟨_, rfl⟩) h
set_option maxRecDepth 20000 in
theorem vc_Jx4a65c_add_72be8 {G : GG} {l : Launch} {d : Nat} {post : Option AVal → AS → Prop} {σ : AS} {kk nn : Nat} {i0 : Nat} {a1 : Option Nm} {p2 : Nat} {a3 : Int32} (h : (((¬ a3 = (nI (gN σ 23 p2)) → (vp_in a3 (gN σ 23 p2) ∧ inObj a1 ∧ post none (sI (sQ σ 23 p2 a3.toNatClampNeg a1) 0 2 i0 (a3 + 1))))) ∧ ((a3 = (nI (gN σ 23 p2)) → (∃ mc4 ms5 kk2 nn3 : Nat, (kk = kk2 + mc4 ∧ nn = nn3 + ms5 ∧ (AMet G l M_Jx4a65c_grow_d5877 d mc4 ms5 [xR (some (0, i0))] σ (retR (fun r6 σ1 => (∃ j7 : Nat, (r6 = some (23, j7) ∧ (vp_in a3 (gN σ1 23 j7) ∧ inObj a1 ∧ post none (sI (sQ σ1 23 j7 a3.toNatClampNeg a1) 0 2 i0 (a3 + 1)))))))))))))) : AW G l M_Jx4a65c_add_72be8 (d + 1) post σ kk nn 0 [some (xR (some (0, i0))), some (xR a1), some (xR (some (23, p2))), some (xI a3)] [] := by
  refine aw_iload_n (i := 3) d_Jx4a65c_add_72be8_0 rfl rfl ?_
  refine aw_aload_n (i := 2) d_Jx4a65c_add_72be8_1 rfl rfl ?_
  refine aw_alen d_Jx4a65c_add_72be8_2 (by decide) ?_
  refine aw_icmp_ne (tgt := 11) d_Jx4a65c_add_72be8_3 (by decide) (fun c => ?_) (fun c => ?_)
  · have h := h.1 c
    refine aw_aload_n (i := 2) d_Jx4a65c_add_72be8_11 rfl rfl ?_
    refine aw_iload_n (i := 3) d_Jx4a65c_add_72be8_12 rfl rfl ?_
    refine aw_aload_n (i := 1) d_Jx4a65c_add_72be8_13 rfl rfl ?_
    obtain ⟨hq, hob, h⟩ := h
    refine aw_aast d_Jx4a65c_add_72be8_14 hq hob ?_
    refine aw_aload_n (i := 0) d_Jx4a65c_add_72be8_15 rfl rfl ?_
    refine aw_iload_n (i := 3) d_Jx4a65c_add_72be8_16 rfl rfl ?_
    refine aw_iconst (x := 1) d_Jx4a65c_add_72be8_17 (by decide) ?_
    refine aw_iadd d_Jx4a65c_add_72be8_18 ?_
    refine aw_putI fl_RJx4a65c_48 (by decide) (fin_no (r := (RJx4a65c, TJx4a65c, 3)) rfl rfl) d_Jx4a65c_add_72be8_19 rfl ⟨rfl, rfl⟩ ?_
    exact aw_vret d_Jx4a65c_add_72be8_22 rfl h
  · have h := h.2 c
    refine aw_aload_n (i := 0) d_Jx4a65c_add_72be8_6 rfl rfl ?_
    obtain ⟨mc4, ms5, kk2, nn3, ek, en, h⟩ := h
    rw [ek, en]
    refine aw_callV (as := []) mw_Jx4a65c_grow_d5877 (by decide +kernel) ml_RJx4a65c_129 rfl d_Jx4a65c_add_72be8_7 rfl (Nat.le_of_ble_eq_true rfl) (AMet.mono h (aw_toR (fun r6 σ1 h => ?_)))
    refine aw_astore_n (i := 2) d_Jx4a65c_add_72be8_10 rfl (by decide) ?_
    refine aw_aload_n (i := 2) d_Jx4a65c_add_72be8_11 rfl rfl ?_
    refine aw_iload_n (i := 3) d_Jx4a65c_add_72be8_12 rfl rfl ?_
    refine aw_aload_n (i := 1) d_Jx4a65c_add_72be8_13 rfl rfl ?_
    obtain ⟨j7, ej7, h⟩ := h
    rw [ej7]
    obtain ⟨hq, hob, h⟩ := h
    refine aw_aast d_Jx4a65c_add_72be8_14 hq hob ?_
    refine aw_aload_n (i := 0) d_Jx4a65c_add_72be8_15 rfl rfl ?_
    refine aw_iload_n (i := 3) d_Jx4a65c_add_72be8_16 rfl rfl ?_
    refine aw_iconst (x := 1) d_Jx4a65c_add_72be8_17 (by decide) ?_
    refine aw_iadd d_Jx4a65c_add_72be8_18 ?_
    refine aw_putI fl_RJx4a65c_48 (by decide) (fin_no (r := (RJx4a65c, TJx4a65c, 3)) rfl rfl) d_Jx4a65c_add_72be8_19 rfl ⟨rfl, rfl⟩ ?_
    exact aw_vret d_Jx4a65c_add_72be8_22 rfl h
set_option maxRecDepth 20000 in
theorem vc_Jx4a65c_add_9ea2d {G : GG} {l : Launch} {d : Nat} {post : Option AVal → AS → Prop} {σ : AS} {kk nn : Nat} {i0 : Nat} {a1 : Option Nm} (h : (∃ mc4 ms5 kk2 nn3 : Nat, (kk = kk2 + mc4 ∧ nn = nn3 + ms5 ∧ (AMet G l M_Jx4a65c_add_72be8 d mc4 ms5 [xR (some (0, i0)), xR a1, xR (gR σ 0 1 i0), xI (gI σ 0 2 i0)] (sI σ 0 0 i0 ((gI σ 0 0 i0) + 1)) (retV (fun σ1 => post (some (xI 1)) σ1)))))) : AW G l M_Jx4a65c_add_9ea2d (d + 1) post σ kk nn 0 [some (xR (some (0, i0))), some (xR a1)] [] := by
  refine aw_aload_n (i := 0) d_Jx4a65c_add_9ea2d_0 rfl rfl ?_
  refine aw_dupR d_Jx4a65c_add_9ea2d_1 ?_
  refine aw_getI fl_RJx4a65c_63 rfl d_Jx4a65c_add_9ea2d_2 ?_
  refine aw_iconst (x := 1) d_Jx4a65c_add_9ea2d_5 (by decide) ?_
  refine aw_iadd d_Jx4a65c_add_9ea2d_6 ?_
  refine aw_putI fl_RJx4a65c_63 (by decide) (fin_no (r := (RJx4a65c, TJx4a65c, 3)) rfl rfl) d_Jx4a65c_add_9ea2d_7 rfl ⟨rfl, rfl⟩ ?_
  refine aw_aload_n (i := 0) d_Jx4a65c_add_9ea2d_10 rfl rfl ?_
  refine aw_aload_n (i := 1) d_Jx4a65c_add_9ea2d_11 rfl rfl ?_
  refine aw_aload_n (i := 0) d_Jx4a65c_add_9ea2d_12 rfl rfl ?_
  refine aw_getRv fl_RJx4a65c_9 rfl (r := (gR σ 0 1 i0)) rfl d_Jx4a65c_add_9ea2d_13 ?_
  refine aw_aload_n (i := 0) d_Jx4a65c_add_9ea2d_16 rfl rfl ?_
  refine aw_getIv fl_RJx4a65c_48 rfl (x := gI σ 0 2 i0) rfl d_Jx4a65c_add_9ea2d_17 ?_
  obtain ⟨mc4, ms5, kk2, nn3, ek, en, h⟩ := h
  rw [ek, en]
  refine aw_callV (as := [xR a1, xR (gR σ 0 1 i0), xI (gI σ 0 2 i0)]) mw_Jx4a65c_add_72be8 (by decide +kernel) ml_RJx4a65c_131 rfl d_Jx4a65c_add_9ea2d_20 rfl (Nat.le_of_ble_eq_true rfl) (AMet.mono h (aw_toV (fun σ1 h => ?_)))
  refine aw_iconst (x := 1) d_Jx4a65c_add_9ea2d_23 (by decide) ?_
  exact aw_ret d_Jx4a65c_add_9ea2d_24 rfl (by decide) h
set_option maxRecDepth 20000 in
theorem vc_Jx4a65c_add_7a177 {G : GG} {l : Launch} {d : Nat} {post : Option AVal → AS → Prop} {σ : AS} {kk nn : Nat} {i0 : Nat} {a1 : Int32} {a2 : Option Nm} (h : AMet G l M_Jx4a65c_rangeCheckForAdd_d00df d 0 0 [xR (some (0, i0)), xI a1] σ (retV (fun σ1 => (∃ j2 : Nat, ((gR σ1 0 1 i0) = some (23, j2) ∧ (((¬ (gI σ1 0 2 i0) = (nI (gN (sI σ1 0 0 i0 ((gI σ1 0 0 i0) + 1)) 23 j2)) → (j2 ≠ 0 ∧ ¬ a1 < 0 ∧ ¬ (a1 + 1) < 0 ∧ ¬ ((gI σ1 0 2 i0) - a1) < 0 ∧ a1.toNatClampNeg + ((gI σ1 0 2 i0) - a1).toNatClampNeg ≤ gN (sI σ1 0 0 i0 ((gI σ1 0 0 i0) + 1)) 23 j2 ∧ (a1 + 1).toNatClampNeg + ((gI σ1 0 2 i0) - a1).toNatClampNeg ≤ gN (sI σ1 0 0 i0 ((gI σ1 0 0 i0) + 1)) 23 j2 ∧ (∀ j, inObj (gQ (sI σ1 0 0 i0 ((gI σ1 0 0 i0) + 1)) 23 j2 j)) ∧ (vp_in a1 (gN (cpyS (sI σ1 0 0 i0 ((gI σ1 0 0 i0) + 1)) j2 a1.toNatClampNeg (a1 + 1).toNatClampNeg ((gI σ1 0 2 i0) - a1).toNatClampNeg j2) 23 j2) ∧ inObj a2 ∧ post none (sI (sQ (cpyS (sI σ1 0 0 i0 ((gI σ1 0 0 i0) + 1)) j2 a1.toNatClampNeg (a1 + 1).toNatClampNeg ((gI σ1 0 2 i0) - a1).toNatClampNeg j2) 23 j2 a1.toNatClampNeg a2) 0 2 i0 ((gI σ1 0 2 i0) + 1)))))) ∧ (((gI σ1 0 2 i0) = (nI (gN (sI σ1 0 0 i0 ((gI σ1 0 0 i0) + 1)) 23 j2)) → (∃ mc6 ms7 kk4 nn5 : Nat, (kk = kk4 + mc6 ∧ nn = nn5 + ms7 ∧ (AMet G l M_Jx4a65c_grow_d5877 d mc6 ms7 [xR (some (0, i0))] (sI σ1 0 0 i0 ((gI σ1 0 0 i0) + 1)) (retR (fun r8 σ3 => (∃ j9 : Nat, (r8 = some (23, j9) ∧ (j9 ≠ 0 ∧ ¬ a1 < 0 ∧ ¬ (a1 + 1) < 0 ∧ ¬ ((gI σ1 0 2 i0) - a1) < 0 ∧ a1.toNatClampNeg + ((gI σ1 0 2 i0) - a1).toNatClampNeg ≤ gN σ3 23 j9 ∧ (a1 + 1).toNatClampNeg + ((gI σ1 0 2 i0) - a1).toNatClampNeg ≤ gN σ3 23 j9 ∧ (∀ j, inObj (gQ σ3 23 j9 j)) ∧ (vp_in a1 (gN (cpyS σ3 j9 a1.toNatClampNeg (a1 + 1).toNatClampNeg ((gI σ1 0 2 i0) - a1).toNatClampNeg j9) 23 j9) ∧ inObj a2 ∧ post none (sI (sQ (cpyS σ3 j9 a1.toNatClampNeg (a1 + 1).toNatClampNeg ((gI σ1 0 2 i0) - a1).toNatClampNeg j9) 23 j9 a1.toNatClampNeg a2) 0 2 i0 ((gI σ1 0 2 i0) + 1))))))))))))))))))) : AW G l M_Jx4a65c_add_7a177 (d + 1) post σ kk nn 0 [some (xR (some (0, i0))), some (xI a1), some (xR a2), none, none] [] := by
  refine aw_aload_n (i := 0) d_Jx4a65c_add_7a177_0 rfl rfl ?_
  refine aw_iload_n (i := 1) d_Jx4a65c_add_7a177_1 rfl rfl ?_
  refine aw_callV0 (as := [xI a1]) mw_Jx4a65c_rangeCheckForAdd_d00df (by decide +kernel) ml_RJx4a65c_135 rfl d_Jx4a65c_add_7a177_2 rfl (Nat.le_of_ble_eq_true rfl) (AMet.mono h (aw_toV (fun σ1 h => ?_)))
  refine aw_aload_n (i := 0) d_Jx4a65c_add_7a177_5 rfl rfl ?_
  refine aw_dupR d_Jx4a65c_add_7a177_6 ?_
  refine aw_getI fl_RJx4a65c_63 rfl d_Jx4a65c_add_7a177_7 ?_
  refine aw_iconst (x := 1) d_Jx4a65c_add_7a177_10 (by decide) ?_
  refine aw_iadd d_Jx4a65c_add_7a177_11 ?_
  refine aw_putI fl_RJx4a65c_63 (by decide) (fin_no (r := (RJx4a65c, TJx4a65c, 3)) rfl rfl) d_Jx4a65c_add_7a177_12 rfl ⟨rfl, rfl⟩ ?_
  refine aw_aload_n (i := 0) d_Jx4a65c_add_7a177_15 rfl rfl ?_
  refine aw_getIv fl_RJx4a65c_48 rfl (x := gI σ1 0 2 i0) rfl d_Jx4a65c_add_7a177_16 ?_
  refine aw_dupI d_Jx4a65c_add_7a177_19 ?_
  refine aw_istore_n (i := 3) d_Jx4a65c_add_7a177_20 rfl (by decide) ?_
  refine aw_aload_n (i := 0) d_Jx4a65c_add_7a177_21 rfl rfl ?_
  refine aw_getRv fl_RJx4a65c_9 rfl (r := (gR σ1 0 1 i0)) rfl d_Jx4a65c_add_7a177_22 ?_
  refine aw_dupR d_Jx4a65c_add_7a177_25 ?_
  refine aw_astore (i := 4) d_Jx4a65c_add_7a177_26 (by decide) ?_
  obtain ⟨j2, ej2, h⟩ := h
  rw [ej2]
  refine aw_alen d_Jx4a65c_add_7a177_28 (by decide) ?_
  refine aw_icmp_ne (tgt := 38) d_Jx4a65c_add_7a177_29 (by decide) (fun c => ?_) (fun c => ?_)
  · have h := h.1 c
    refine aw_aload (i := 4) d_Jx4a65c_add_7a177_38 rfl ?_
    refine aw_iload_n (i := 1) d_Jx4a65c_add_7a177_40 rfl rfl ?_
    refine aw_aload (i := 4) d_Jx4a65c_add_7a177_41 rfl ?_
    refine aw_iload_n (i := 1) d_Jx4a65c_add_7a177_43 rfl rfl ?_
    refine aw_iconst (x := 1) d_Jx4a65c_add_7a177_44 (by decide) ?_
    refine aw_iadd d_Jx4a65c_add_7a177_45 ?_
    refine aw_iload_n (i := 3) d_Jx4a65c_add_7a177_46 rfl rfl ?_
    refine aw_iload_n (i := 1) d_Jx4a65c_add_7a177_47 rfl rfl ?_
    refine aw_isub d_Jx4a65c_add_7a177_48 ?_
    obtain ⟨c1, c2, c3, c4, c5, c6, c7, h⟩ := h
    refine aw_copy sc_RJx4a65c_112 d_Jx4a65c_add_7a177_49 c1 c2 c3 c4 c5 c6 c7 (Nat.le_of_ble_eq_true rfl) ?_
    refine aw_aload (i := 4) d_Jx4a65c_add_7a177_52 rfl ?_
    refine aw_iload_n (i := 1) d_Jx4a65c_add_7a177_54 rfl rfl ?_
    refine aw_aload_n (i := 2) d_Jx4a65c_add_7a177_55 rfl rfl ?_
    obtain ⟨hq, hob, h⟩ := h
    refine aw_aast d_Jx4a65c_add_7a177_56 hq hob ?_
    refine aw_aload_n (i := 0) d_Jx4a65c_add_7a177_57 rfl rfl ?_
    refine aw_iload_n (i := 3) d_Jx4a65c_add_7a177_58 rfl rfl ?_
    refine aw_iconst (x := 1) d_Jx4a65c_add_7a177_59 (by decide) ?_
    refine aw_iadd d_Jx4a65c_add_7a177_60 ?_
    refine aw_putI fl_RJx4a65c_48 (by decide) (fin_no (r := (RJx4a65c, TJx4a65c, 3)) rfl rfl) d_Jx4a65c_add_7a177_61 rfl ⟨rfl, rfl⟩ ?_
    exact aw_vret d_Jx4a65c_add_7a177_64 rfl h
  · have h := h.2 c
    refine aw_aload_n (i := 0) d_Jx4a65c_add_7a177_32 rfl rfl ?_
    obtain ⟨mc6, ms7, kk4, nn5, ek, en, h⟩ := h
    rw [ek, en]
    refine aw_callV (as := []) mw_Jx4a65c_grow_d5877 (by decide +kernel) ml_RJx4a65c_129 rfl d_Jx4a65c_add_7a177_33 rfl (Nat.le_of_ble_eq_true rfl) (AMet.mono h (aw_toR (fun r8 σ3 h => ?_)))
    refine aw_astore (i := 4) d_Jx4a65c_add_7a177_36 (by decide) ?_
    refine aw_aload (i := 4) d_Jx4a65c_add_7a177_38 rfl ?_
    refine aw_iload_n (i := 1) d_Jx4a65c_add_7a177_40 rfl rfl ?_
    refine aw_aload (i := 4) d_Jx4a65c_add_7a177_41 rfl ?_
    refine aw_iload_n (i := 1) d_Jx4a65c_add_7a177_43 rfl rfl ?_
    refine aw_iconst (x := 1) d_Jx4a65c_add_7a177_44 (by decide) ?_
    refine aw_iadd d_Jx4a65c_add_7a177_45 ?_
    refine aw_iload_n (i := 3) d_Jx4a65c_add_7a177_46 rfl rfl ?_
    refine aw_iload_n (i := 1) d_Jx4a65c_add_7a177_47 rfl rfl ?_
    refine aw_isub d_Jx4a65c_add_7a177_48 ?_
    obtain ⟨j9, ej9, h⟩ := h
    rw [ej9]
    obtain ⟨c1, c2, c3, c4, c5, c6, c7, h⟩ := h
    refine aw_copy sc_RJx4a65c_112 d_Jx4a65c_add_7a177_49 c1 c2 c3 c4 c5 c6 c7 (Nat.le_of_ble_eq_true rfl) ?_
    refine aw_aload (i := 4) d_Jx4a65c_add_7a177_52 rfl ?_
    refine aw_iload_n (i := 1) d_Jx4a65c_add_7a177_54 rfl rfl ?_
    refine aw_aload_n (i := 2) d_Jx4a65c_add_7a177_55 rfl rfl ?_
    obtain ⟨hq, hob, h⟩ := h
    refine aw_aast d_Jx4a65c_add_7a177_56 hq hob ?_
    refine aw_aload_n (i := 0) d_Jx4a65c_add_7a177_57 rfl rfl ?_
    refine aw_iload_n (i := 3) d_Jx4a65c_add_7a177_58 rfl rfl ?_
    refine aw_iconst (x := 1) d_Jx4a65c_add_7a177_59 (by decide) ?_
    refine aw_iadd d_Jx4a65c_add_7a177_60 ?_
    refine aw_putI fl_RJx4a65c_48 (by decide) (fin_no (r := (RJx4a65c, TJx4a65c, 3)) rfl rfl) d_Jx4a65c_add_7a177_61 rfl ⟨rfl, rfl⟩ ?_
    exact aw_vret d_Jx4a65c_add_7a177_64 rfl h
set_option maxRecDepth 20000 in
theorem vc_Jx4a65c_clear_da8c8 {G : GG} {l : Launch} {d : Nat} {post : Option AVal → AS → Prop} {σ : AS} {kk nn : Nat} {i0 : Nat} (h : AW G l M_Jx4a65c_clear_da8c8 d post (sI (sI σ 0 0 i0 ((gI σ 0 0 i0) + 1)) 0 2 i0 0) kk nn 27 [none, some (xR (gR σ 0 1 i0)), some (xI (gI σ 0 2 i0)), some (xI 0)] []) : AW G l M_Jx4a65c_clear_da8c8 d post σ kk nn 0 [some (xR (some (0, i0))), none, none, none] [] := by
  refine aw_aload_n (i := 0) d_Jx4a65c_clear_da8c8_0 rfl rfl ?_
  refine aw_dupR d_Jx4a65c_clear_da8c8_1 ?_
  refine aw_getI fl_RJx4a65c_63 rfl d_Jx4a65c_clear_da8c8_2 ?_
  refine aw_iconst (x := 1) d_Jx4a65c_clear_da8c8_5 (by decide) ?_
  refine aw_iadd d_Jx4a65c_clear_da8c8_6 ?_
  refine aw_putI fl_RJx4a65c_63 (by decide) (fin_no (r := (RJx4a65c, TJx4a65c, 3)) rfl rfl) d_Jx4a65c_clear_da8c8_7 rfl ⟨rfl, rfl⟩ ?_
  refine aw_aload_n (i := 0) d_Jx4a65c_clear_da8c8_10 rfl rfl ?_
  refine aw_getRv fl_RJx4a65c_9 rfl (r := (gR σ 0 1 i0)) rfl d_Jx4a65c_clear_da8c8_11 ?_
  refine aw_astore_n (i := 1) d_Jx4a65c_clear_da8c8_14 rfl (by decide) ?_
  refine aw_aload_n (i := 0) d_Jx4a65c_clear_da8c8_15 rfl rfl ?_
  refine aw_getIv fl_RJx4a65c_48 rfl (x := gI σ 0 2 i0) rfl d_Jx4a65c_clear_da8c8_16 ?_
  refine aw_istore_n (i := 2) d_Jx4a65c_clear_da8c8_19 rfl (by decide) ?_
  refine aw_aload_n (i := 0) d_Jx4a65c_clear_da8c8_20 rfl rfl ?_
  refine aw_iconst (x := 0) d_Jx4a65c_clear_da8c8_21 (by decide) ?_
  refine aw_dupx1I d_Jx4a65c_clear_da8c8_22 ?_
  refine aw_putI fl_RJx4a65c_48 (by decide) (fin_no (r := (RJx4a65c, TJx4a65c, 3)) rfl rfl) d_Jx4a65c_clear_da8c8_23 rfl ⟨rfl, rfl⟩ ?_
  refine aw_istore_n (i := 3) d_Jx4a65c_clear_da8c8_26 rfl (by decide) ?_
  exact AW.weak h (by exact ⟨rfl, ⟨rfl, ⟨rfl, trivial⟩⟩⟩)
set_option maxRecDepth 20000 in
theorem vc_Jx4a65c_clear_da8c8_27 {G : GG} {l : Launch} {d : Nat} {post : Option AVal → AS → Prop} {σ : AS} {kk nn : Nat} {v1 : Option Nm} {v2 : Int32} {v3 : Int32} (h : (((v2 ≤ v3 → post none σ)) ∧ ((¬ v2 ≤ v3 → (∃ j1 : Nat, (v1 = some (23, j1) ∧ (vp_in v3 (gN σ 23 j1) ∧ inObj none ∧ AW G l M_Jx4a65c_clear_da8c8 d post (sQ σ 23 j1 v3.toNatClampNeg none) kk nn 27 [none, some (xR (some (23, j1))), some (xI v2), some (xI (v3 + 1))] []))))))) : AW G l M_Jx4a65c_clear_da8c8 d post σ kk nn 27 [none, some (xR v1), some (xI v2), some (xI v3)] [] := by
  refine aw_iload_n (i := 3) d_Jx4a65c_clear_da8c8_27 rfl rfl ?_
  refine aw_iload_n (i := 2) d_Jx4a65c_clear_da8c8_28 rfl rfl ?_
  refine aw_icmp_ge (tgt := 42) d_Jx4a65c_clear_da8c8_29 (by decide) (fun c => ?_) (fun c => ?_)
  · have h := h.1 c
    exact aw_vret d_Jx4a65c_clear_da8c8_42 rfl h
  · have h := h.2 c
    refine aw_aload_n (i := 1) d_Jx4a65c_clear_da8c8_32 rfl rfl ?_
    refine aw_iload_n (i := 3) d_Jx4a65c_clear_da8c8_33 rfl rfl ?_
    refine aw_null d_Jx4a65c_clear_da8c8_34 ?_
    obtain ⟨j1, ej1, h⟩ := h
    rw [ej1]
    obtain ⟨hq, hob, h⟩ := h
    refine aw_aast d_Jx4a65c_clear_da8c8_35 hq hob ?_
    refine aw_iinc (i := 3) (v := v3 + 1) d_Jx4a65c_clear_da8c8_36 rfl rfl (by decide) ?_
    refine aw_goto (tgt := 27) d_Jx4a65c_clear_da8c8_39 (by decide) ?_
    exact h
set_option maxRecDepth 20000 in
theorem vc_Jx4a65c_rangeCheckForAdd_d00df {G : GG} {l : Launch} {d : Nat} {post : Option AVal → AS → Prop} {σ : AS} {kk nn : Nat} {i0 : Nat} {a1 : Int32} (h : ((((gI σ 0 2 i0) < a1 → False)) ∧ ((¬ (gI σ 0 2 i0) < a1 → (((0 ≤ a1 → post none σ)) ∧ ((¬ 0 ≤ a1 → False))))))) : AW G l M_Jx4a65c_rangeCheckForAdd_d00df (d + 1) post σ kk nn 0 [some (xR (some (0, i0))), some (xI a1)] [] := by
  refine aw_iload_n (i := 1) d_Jx4a65c_rangeCheckForAdd_d00df_0 rfl rfl ?_
  refine aw_aload_n (i := 0) d_Jx4a65c_rangeCheckForAdd_d00df_1 rfl rfl ?_
  refine aw_getI fl_RJx4a65c_48 rfl d_Jx4a65c_rangeCheckForAdd_d00df_2 ?_
  refine aw_icmp_gt (tgt := 12) d_Jx4a65c_rangeCheckForAdd_d00df_5 (by decide) (fun c => ?_) (fun c => ?_)
  · have h := h.1 c
    exact h.elim
  · have h := h.2 c
    refine aw_iload_n (i := 1) d_Jx4a65c_rangeCheckForAdd_d00df_8 rfl rfl ?_
    refine aw_if_ge (tgt := 25) d_Jx4a65c_rangeCheckForAdd_d00df_9 (by decide) (fun c => ?_) (fun c => ?_)
    · have h := h.1 c
      exact aw_vret d_Jx4a65c_rangeCheckForAdd_d00df_25 rfl h
    · have h := h.2 c
      exact h.elim
set_option maxRecDepth 20000 in
theorem vc_J7_copyOf_1904c {G : GG} {l : Launch} {d : Nat} {post : Option AVal → AS → Prop} {σ : AS} {kk nn : Nat} {p1 : Nat} {a2 : Int32} (h : (∃ mc4 ms5 kk2 nn3 : Nat, (kk = kk2 + mc4 ∧ nn = nn3 + ms5 ∧ (AMet G l M_J7_copyOf_6403c d mc4 ms5 [xR (some (23, p1)), xI a2, xR (some (31, 0))] σ (retR (fun r6 σ1 => post (some (xR r6)) σ1)))))) : AW G l M_J7_copyOf_1904c (d + 1) post σ kk nn 0 [some (xR (some (23, p1))), some (xI a2)] [] := by
  refine aw_aload_n (i := 0) d_J7_copyOf_1904c_0 rfl rfl ?_
  refine aw_iload_n (i := 1) d_J7_copyOf_1904c_1 rfl rfl ?_
  refine aw_aload_n (i := 0) d_J7_copyOf_1904c_2 rfl rfl ?_
  refine aw_getC gc_RJ7_86 d_J7_copyOf_1904c_3 (Nat.le_of_ble_eq_true rfl) ?_
  obtain ⟨mc4, ms5, kk2, nn3, ek, en, h⟩ := h
  rw [ek, en]
  refine aw_callS (as := [xR (some (23, p1)), xI a2, xR (some (31, 0))]) mw_J7_copyOf_6403c ml_RJ7_300 rfl d_J7_copyOf_1904c_6 rfl (Nat.le_of_ble_eq_true rfl) (AMet.mono h (aw_toR (fun r6 σ1 h => ?_)))
  exact aw_aret d_J7_copyOf_1904c_9 rfl (Or.inr ⟨_, rfl⟩) h
set_option maxRecDepth 20000 in
theorem vc_J7_copyOf_6403c {G : GG} {l : Launch} {d : Nat} {post : Option AVal → AS → Prop} {σ : AS} {kk nn : Nat} {p1 : Nat} {a2 : Int32} (h : (((¬ (some (31, 0)) = (some (31, 0)) → False)) ∧ (((some (31, 0)) = (some (31, 0)) → (∃ N3 kk1 nn2 : Nat, (a2.toNatClampNeg = N3 ∧ ¬ a2 < 0 ∧ N3 ≤ 60000000 ∧ kk = kk1 + 1 ∧ nn = nn2 + N3 ∧ ((cnt σ 23) ≠ 0 ∧ ¬ (0 : Int32) < 0 ∧ ¬ (0 : Int32) < 0 ∧ ¬ (if a2 < (nI (gN (nA σ 23 N3) 23 p1)) then a2 else (nI (gN (nA σ 23 N3) 23 p1))) < 0 ∧ (0 : Int32).toNatClampNeg + (if a2 < (nI (gN (nA σ 23 N3) 23 p1)) then a2 else (nI (gN (nA σ 23 N3) 23 p1))).toNatClampNeg ≤ gN (nA σ 23 N3) 23 p1 ∧ (0 : Int32).toNatClampNeg + (if a2 < (nI (gN (nA σ 23 N3) 23 p1)) then a2 else (nI (gN (nA σ 23 N3) 23 p1))).toNatClampNeg ≤ gN (nA σ 23 N3) 23 (cnt σ 23) ∧ (∀ j, inObj (gQ (nA σ 23 N3) 23 p1 j)) ∧ post (some (xR (some (23, (cnt σ 23))))) (cpyS (nA σ 23 N3) p1 (0 : Int32).toNatClampNeg (0 : Int32).toNatClampNeg (if a2 < (nI (gN (nA σ 23 N3) 23 p1)) then a2 else (nI (gN (nA σ 23 N3) 23 p1))).toNatClampNeg (cnt σ 23))))))))) : AW G l M_J7_copyOf_6403c (d + 1) post σ kk nn 0 [some (xR (some (23, p1))), some (xI a2), some (xR (some (31, 0))), none] [] := by
  refine aw_aload_n (i := 2) d_J7_copyOf_6403c_0 rfl rfl ?_
  refine aw_ldcM cl_RJ7_110 d_J7_copyOf_6403c_1 ?_
  refine aw_acmp_ne (tgt := 13) d_J7_copyOf_6403c_3 (by decide) (fun n m e1 e2 => by cases e1; cases e2; exact Or.inr (Or.inr rfl)) (fun c => ?_) (fun c => ?_)
  · have h := h.1 c
    refine aw_aload_n (i := 2) d_J7_copyOf_6403c_13 rfl rfl ?_
    exact h.elim
  · have h := h.2 c
    refine aw_iload_n (i := 1) d_J7_copyOf_6403c_6 rfl rfl ?_
    obtain ⟨N3, kk1, nn2, hN, hx, hb, ek, en, h⟩ := h
    rw [ek, en]
    refine aw_newobj (N := N3) hN cl_RJ7_2 d_J7_copyOf_6403c_7 hx hb ?_
    refine aw_goto (tgt := 24) d_J7_copyOf_6403c_10 (by decide) ?_
    refine aw_astore_n (i := 3) d_J7_copyOf_6403c_24 rfl (by decide) ?_
    refine aw_aload_n (i := 0) d_J7_copyOf_6403c_25 rfl rfl ?_
    refine aw_iconst (x := 0) d_J7_copyOf_6403c_26 (by decide) ?_
    refine aw_aload_n (i := 3) d_J7_copyOf_6403c_27 rfl rfl ?_
    refine aw_iconst (x := 0) d_J7_copyOf_6403c_28 (by decide) ?_
    refine aw_aload_n (i := 0) d_J7_copyOf_6403c_29 rfl rfl ?_
    refine aw_alen d_J7_copyOf_6403c_30 (by decide) ?_
    refine aw_iload_n (i := 1) d_J7_copyOf_6403c_31 rfl rfl ?_
    refine aw_mmin ml_RJ7_304 d_J7_copyOf_6403c_32 (Nat.le_of_ble_eq_true rfl) ?_
    obtain ⟨c1, c2, c3, c4, c5, c6, c7, h⟩ := h
    refine aw_copy sc_RJ7_150 d_J7_copyOf_6403c_35 c1 c2 c3 c4 c5 c6 c7 (Nat.le_of_ble_eq_true rfl) ?_
    refine aw_aload_n (i := 3) d_J7_copyOf_6403c_38 rfl rfl ?_
    exact aw_aret d_J7_copyOf_6403c_39 rfl (Or.inr ⟨_, rfl⟩) h
set_option maxRecDepth 20000 in
theorem vc_J15_checkIndex_7cf53 {G : GG} {l : Launch} {d : Nat} {post : Option AVal → AS → Prop} {σ : AS} {kk nn : Nat} {a1 : Int32} {a2 : Int32} (h : AMet G l M_J3_checkIndex_8e157 d 0 0 [xI a1, xI a2, xR none] σ (retI (fun x2 σ1 => post (some (xI x2)) σ1))) : AW G l M_J15_checkIndex_7cf53 (d + 1) post σ kk nn 0 [some (xI a1), some (xI a2)] [] := by
  refine aw_iload_n (i := 0) d_J15_checkIndex_7cf53_0 rfl rfl ?_
  refine aw_iload_n (i := 1) d_J15_checkIndex_7cf53_1 rfl rfl ?_
  refine aw_null d_J15_checkIndex_7cf53_2 ?_
  refine aw_callS0 (as := [xI a1, xI a2, xR none]) mw_J3_checkIndex_8e157 ml_RJ15_105 rfl d_J15_checkIndex_7cf53_3 rfl (Nat.le_of_ble_eq_true rfl) (AMet.mono h (aw_toI (fun x2 σ1 h => ?_)))
  exact aw_ret d_J15_checkIndex_7cf53_6 rfl rfl h
set_option maxRecDepth 20000 in
theorem vc_J8_newLength_cabcc {G : GG} {l : Launch} {d : Nat} {post : Option AVal → AS → Prop} {σ : AS} {kk nn : Nat} {a1 : Int32} {a2 : Int32} {a3 : Int32} (h : ((((a1 + (if a2 < a3 then a3 else a2)) ≤ 0 → AMet G l M_J8_hugeLength_7cf53 d 0 0 [xI a1, xI a2] σ (retI (fun x2 σ1 => post (some (xI x2)) σ1)))) ∧ ((¬ (a1 + (if a2 < a3 then a3 else a2)) ≤ 0 → (((2147483639 < (a1 + (if a2 < a3 then a3 else a2)) → AMet G l M_J8_hugeLength_7cf53 d 0 0 [xI a1, xI a2] σ (retI (fun x4 σ3 => post (some (xI x4)) σ3)))) ∧ ((¬ 2147483639 < (a1 + (if a2 < a3 then a3 else a2)) → post (some (xI (a1 + (if a2 < a3 then a3 else a2)))) σ))))))) : AW G l M_J8_newLength_cabcc (d + 1) post σ kk nn 0 [some (xI a1), some (xI a2), some (xI a3), none] [] := by
  refine aw_iload_n (i := 0) d_J8_newLength_cabcc_0 rfl rfl ?_
  refine aw_iload_n (i := 1) d_J8_newLength_cabcc_1 rfl rfl ?_
  refine aw_iload_n (i := 2) d_J8_newLength_cabcc_2 rfl rfl ?_
  refine aw_mmax ml_RJ8_194 d_J8_newLength_cabcc_3 (Nat.le_of_ble_eq_true rfl) ?_
  refine aw_iadd d_J8_newLength_cabcc_6 ?_
  refine aw_istore_n (i := 3) d_J8_newLength_cabcc_7 rfl (by decide) ?_
  refine aw_iconst (x := 0) d_J8_newLength_cabcc_8 (by decide) ?_
  refine aw_iload_n (i := 3) d_J8_newLength_cabcc_9 rfl rfl ?_
  refine aw_icmp_ge (tgt := 21) d_J8_newLength_cabcc_10 (by decide) (fun c => ?_) (fun c => ?_)
  · have h := h.1 c
    refine aw_iload_n (i := 0) d_J8_newLength_cabcc_21 rfl rfl ?_
    refine aw_iload_n (i := 1) d_J8_newLength_cabcc_22 rfl rfl ?_
    refine aw_callS0 (as := [xI a1, xI a2]) mw_J8_hugeLength_7cf53 ml_RJ8_201 rfl d_J8_newLength_cabcc_23 rfl (Nat.le_of_ble_eq_true rfl) (AMet.mono h (aw_toI (fun x2 σ1 h => ?_)))
    exact aw_ret d_J8_newLength_cabcc_26 rfl rfl h
  · have h := h.2 c
    refine aw_iload_n (i := 3) d_J8_newLength_cabcc_13 rfl rfl ?_
    refine aw_ldcI (x := 2147483639) d_J8_newLength_cabcc_14 ct_RJ8_200 ?_
    refine aw_icmp_gt (tgt := 21) d_J8_newLength_cabcc_16 (by decide) (fun c => ?_) (fun c => ?_)
    · have h := h.1 c
      refine aw_iload_n (i := 0) d_J8_newLength_cabcc_21 rfl rfl ?_
      refine aw_iload_n (i := 1) d_J8_newLength_cabcc_22 rfl rfl ?_
      refine aw_callS0 (as := [xI a1, xI a2]) mw_J8_hugeLength_7cf53 ml_RJ8_201 rfl d_J8_newLength_cabcc_23 rfl (Nat.le_of_ble_eq_true rfl) (AMet.mono h (aw_toI (fun x4 σ3 h => ?_)))
      exact aw_ret d_J8_newLength_cabcc_26 rfl rfl h
    · have h := h.2 c
      refine aw_iload_n (i := 3) d_J8_newLength_cabcc_19 rfl rfl ?_
      exact aw_ret d_J8_newLength_cabcc_20 rfl rfl h
set_option maxRecDepth 20000 in
theorem vc_J3_checkIndex_8e157 {G : GG} {l : Launch} {d : Nat} {post : Option AVal → AS → Prop} {σ : AS} {kk nn : Nat} {a1 : Int32} {a2 : Int32} {a3 : Option Nm} (h : (((a1 < 0 → False)) ∧ ((¬ a1 < 0 → (((a1 < a2 → post (some (xI a1)) σ)) ∧ ((¬ a1 < a2 → False))))))) : AW G l M_J3_checkIndex_8e157 (d + 1) post σ kk nn 0 [some (xI a1), some (xI a2), some (xR a3)] [] := by
  refine aw_iload_n (i := 0) d_J3_checkIndex_8e157_0 rfl rfl ?_
  refine aw_if_lt (tgt := 9) d_J3_checkIndex_8e157_1 (by decide) (fun c => ?_) (fun c => ?_)
  · have h := h.1 c
    refine aw_aload_n (i := 2) d_J3_checkIndex_8e157_9 rfl rfl ?_
    refine aw_iload_n (i := 0) d_J3_checkIndex_8e157_10 rfl rfl ?_
    refine aw_iload_n (i := 1) d_J3_checkIndex_8e157_11 rfl rfl ?_
    exact h.elim
  · have h := h.2 c
    refine aw_iload_n (i := 0) d_J3_checkIndex_8e157_4 rfl rfl ?_
    refine aw_iload_n (i := 1) d_J3_checkIndex_8e157_5 rfl rfl ?_
    refine aw_icmp_lt (tgt := 16) d_J3_checkIndex_8e157_6 (by decide) (fun c => ?_) (fun c => ?_)
    · have h := h.1 c
      refine aw_iload_n (i := 0) d_J3_checkIndex_8e157_16 rfl rfl ?_
      exact aw_ret d_J3_checkIndex_8e157_17 rfl rfl h
    · have h := h.2 c
      refine aw_aload_n (i := 2) d_J3_checkIndex_8e157_9 rfl rfl ?_
      refine aw_iload_n (i := 0) d_J3_checkIndex_8e157_10 rfl rfl ?_
      refine aw_iload_n (i := 1) d_J3_checkIndex_8e157_11 rfl rfl ?_
      exact h.elim
