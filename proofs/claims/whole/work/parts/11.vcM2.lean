set_option maxRecDepth 20000 in
theorem vc_X12_no {G : GG} {l : Launch} {d : Nat} {post : Option AVal → AS → Prop} {σ : AS} {kk nn : Nat} {a1 : Int32} (h : AMet G l M_X12_isPerson d 0 0 [xR (some (13, 0)), xI a1] (sI σ 13 0 0 0) (retI (fun x2 σ1 => (St σ1 ∧ (((x2 = 0 → post (some (xI (-1))) σ1)) ∧ ((¬ x2 = 0 → (vp_in a1 40 ∧ (((¬ (gA σ1 26 7 a1.toNatClampNeg) = (-1) → (vp_in a1 40 ∧ (vp_in a1 40 ∧ (vp_in a1 40 ∧ (AMet G l M_X12_reckons d 0 0 [xR (some (13, 0))] (sI (sA (sA σ1 26 7 a1.toNatClampNeg (-1)) 21 0 a1.toNatClampNeg (vp_nar .boolean 1)) 13 48 0 0) (retV (fun σ3 => AW G l M_X12_no (d + 1) post σ3 kk nn 57 [some (xR (some (13, 0))), none, some (xI (gA σ1 26 7 a1.toNatClampNeg)), some (xI 1), none, none] [])))))))) ∧ (((gA σ1 26 7 a1.toNatClampNeg) = (-1) → post (some (xI (-1))) σ1))))))))))) : AW G l M_X12_no (d + 1) post σ kk nn 0 [some (xR (some (13, 0))), some (xI a1), none, none, none, none] [] := by
  refine aw_aload_n (i := 0) d_X12_no_0 rfl rfl ?_
  refine aw_iconst (x := 0) d_X12_no_1 (by decide) ?_
  refine aw_putI fl_RX12_1 (by decide) (fin_no (r := (RX12, TX12, 68)) rfl rfl) d_X12_no_2 rfl ⟨rfl, rfl⟩ ?_
  refine aw_aload_n (i := 0) d_X12_no_5 rfl rfl ?_
  refine aw_iload_n (i := 1) d_X12_no_6 rfl rfl ?_
  refine aw_callV0 (as := [xI a1]) mw_X12_isPerson (by decide +kernel) ml_RX12_159 rfl d_X12_no_7 rfl (Nat.le_of_ble_eq_true rfl) (AMet.mono h (aw_toI (fun x2 σ1 h => ?_)))
  obtain ⟨hS1, h⟩ := h
  refine aw_if_eq (tgt := 23) d_X12_no_10 (by decide) (fun c => ?_) (fun c => ?_)
  · have h := h.1 c
    refine aw_iconst (x := -1) d_X12_no_23 (by decide) ?_
    exact aw_ret d_X12_no_24 rfl rfl h
  · have h := h.2 c
    refine aw_aload_n (i := 0) d_X12_no_13 rfl rfl ?_
    refine aw_getRv fl_RX12_39 rfl (r := some (26, 7)) (St.get hS1 13 11 0 26 7 (by decide)) d_X12_no_14 ?_
    refine aw_iload_n (i := 1) d_X12_no_17 rfl rfl ?_
    obtain ⟨hq, h⟩ := h
    refine aw_iald d_X12_no_18 (by decide) (vp_of (St.len hS1 26 7 40 (by decide)) hq) ?_
    refine aw_iconst (x := -1) d_X12_no_19 (by decide) ?_
    refine aw_icmp_ne (tgt := 25) d_X12_no_20 (by decide) (fun c => ?_) (fun c => ?_)
    · have h := h.1 c
      refine aw_aload_n (i := 0) d_X12_no_25 rfl rfl ?_
      refine aw_getRv fl_RX12_39 rfl (r := some (26, 7)) (St.get hS1 13 11 0 26 7 (by decide)) d_X12_no_26 ?_
      refine aw_iload_n (i := 1) d_X12_no_29 rfl rfl ?_
      obtain ⟨hq, h⟩ := h
      refine aw_iald d_X12_no_30 (by decide) (vp_of (St.len hS1 26 7 40 (by decide)) hq) ?_
      refine aw_istore_n (i := 2) d_X12_no_31 rfl (by decide) ?_
      refine aw_aload_n (i := 0) d_X12_no_32 rfl rfl ?_
      refine aw_getRv fl_RX12_39 rfl (r := some (26, 7)) (St.get hS1 13 11 0 26 7 (by decide)) d_X12_no_33 ?_
      refine aw_iload_n (i := 1) d_X12_no_36 rfl rfl ?_
      refine aw_iconst (x := -1) d_X12_no_37 (by decide) ?_
      obtain ⟨hq, h⟩ := h
      refine aw_iast d_X12_no_38 (by decide) (vp_of (St.len hS1 26 7 40 (by decide)) hq) ?_
      refine aw_aload_n (i := 0) d_X12_no_39 rfl rfl ?_
      refine aw_getRv fl_RX12_29 rfl (r := some (21, 0)) (St.get (St.sA hS1) 13 8 0 21 0 (by decide)) d_X12_no_40 ?_
      refine aw_iload_n (i := 1) d_X12_no_43 rfl rfl ?_
      refine aw_iconst (x := 1) d_X12_no_44 (by decide) ?_
      obtain ⟨hq, h⟩ := h
      refine aw_zast d_X12_no_45 (vp_of (St.len (St.sA hS1) 21 0 40 (by decide)) hq) ?_
      refine aw_aload_n (i := 0) d_X12_no_46 rfl rfl ?_
      refine aw_iconst (x := 0) d_X12_no_47 (by decide) ?_
      refine aw_putI fl_RX12_334 (by decide) (fin_no (r := (RX12, TX12, 68)) rfl rfl) d_X12_no_48 rfl ⟨rfl, rfl⟩ ?_
      refine aw_aload_n (i := 0) d_X12_no_51 rfl rfl ?_
      refine aw_callV0 (as := []) mw_X12_reckons (by decide +kernel) ml_RX12_320 rfl d_X12_no_52 rfl (Nat.le_of_ble_eq_true rfl) (AMet.mono h (aw_toV (fun σ3 h => ?_)))
      refine aw_iconst (x := 1) d_X12_no_55 (by decide) ?_
      refine aw_istore_n (i := 3) d_X12_no_56 rfl (by decide) ?_
      exact AW.weak h (by exact ⟨rfl, ⟨rfl, ⟨rfl, trivial⟩⟩⟩)
    · have h := h.2 c
      refine aw_iconst (x := -1) d_X12_no_23 (by decide) ?_
      exact aw_ret d_X12_no_24 rfl rfl h
set_option maxRecDepth 20000 in
theorem vc_X12_no_57 {G : GG} {l : Launch} {d : Nat} {post : Option AVal → AS → Prop} {σ : AS} {kk nn : Nat} {v2 : Int32} {v3 : Int32} (h : ((((gI σ 13 29 0) < v3 → AW G l M_X12_no (d + 1) post σ kk nn 101 [some (xR (some (13, 0))), none, none, some (xI v2), some (xI 0), none] [])) ∧ ((¬ (gI σ 13 29 0) < v3 → (((¬ (gI σ 13 48 0) = 0 → AW G l M_X12_no (d + 1) post σ kk nn 101 [some (xR (some (13, 0))), none, none, some (xI v2), some (xI 0), none] [])) ∧ (((gI σ 13 48 0) = 0 → AMet G l M_X12_mends d 0 0 [xR (some (13, 0)), xI v2, xI 0, xI v3, xI (1 <<< (v2 &&& 31))] σ (retI (fun x5 σ4 => (((x5 = 0 → AW G l M_X12_no (d + 1) post σ4 kk nn 57 [some (xR (some (13, 0))), none, some (xI v2), some (xI (v3 + 1)), none, none] [])) ∧ ((¬ x5 = 0 → AW G l M_X12_no (d + 1) post (sI σ4 13 48 0 v3) kk nn 57 [some (xR (some (13, 0))), none, some (xI v2), some (xI (v3 + 1)), none, none] [])))))))))))) : AW G l M_X12_no (d + 1) post σ kk nn 57 [some (xR (some (13, 0))), none, some (xI v2), some (xI v3), none, none] [] := by
  refine aw_iload_n (i := 3) d_X12_no_57 rfl rfl ?_
  refine aw_aload_n (i := 0) d_X12_no_58 rfl rfl ?_
  refine aw_getI fl_RX12_298 rfl d_X12_no_59 ?_
  refine aw_icmp_gt (tgt := 96) d_X12_no_62 (by decide) (fun c => ?_) (fun c => ?_)
  · have h := h.1 c
    refine aw_iload_n (i := 2) d_X12_no_96 rfl rfl ?_
    refine aw_istore_n (i := 3) d_X12_no_97 rfl (by decide) ?_
    refine aw_iconst (x := 0) d_X12_no_98 (by decide) ?_
    refine aw_istore (i := 4) d_X12_no_99 (by decide) ?_
    exact AW.weak h (by exact ⟨rfl, ⟨rfl, ⟨rfl, trivial⟩⟩⟩)
  · have h := h.2 c
    refine aw_aload_n (i := 0) d_X12_no_65 rfl rfl ?_
    refine aw_getI fl_RX12_334 rfl d_X12_no_66 ?_
    refine aw_if_ne (tgt := 96) d_X12_no_69 (by decide) (fun c => ?_) (fun c => ?_)
    · have h := h.1 c
      refine aw_iload_n (i := 2) d_X12_no_96 rfl rfl ?_
      refine aw_istore_n (i := 3) d_X12_no_97 rfl (by decide) ?_
      refine aw_iconst (x := 0) d_X12_no_98 (by decide) ?_
      refine aw_istore (i := 4) d_X12_no_99 (by decide) ?_
      exact AW.weak h (by exact ⟨rfl, ⟨rfl, ⟨rfl, trivial⟩⟩⟩)
    · have h := h.2 c
      refine aw_aload_n (i := 0) d_X12_no_72 rfl rfl ?_
      refine aw_iload_n (i := 2) d_X12_no_73 rfl rfl ?_
      refine aw_iconst (x := 0) d_X12_no_74 (by decide) ?_
      refine aw_iload_n (i := 3) d_X12_no_75 rfl rfl ?_
      refine aw_iconst (x := 1) d_X12_no_76 (by decide) ?_
      refine aw_iload_n (i := 2) d_X12_no_77 rfl rfl ?_
      refine aw_ishl d_X12_no_78 ?_
      refine aw_callV0 (as := [xI v2, xI 0, xI v3, xI (1 <<< (v2 &&& 31))]) mw_X12_mends (by decide +kernel) ml_RX12_330 rfl d_X12_no_79 rfl (Nat.le_of_ble_eq_true rfl) (AMet.mono h (aw_toI (fun x5 σ4 h => ?_)))
      refine aw_if_eq (tgt := 90) d_X12_no_82 (by decide) (fun c => ?_) (fun c => ?_)
      · have h := h.1 c
        refine aw_iinc (i := 3) (v := v3 + 1) d_X12_no_90 rfl rfl (by decide) ?_
        refine aw_goto (tgt := 57) d_X12_no_93 (by decide) ?_
        exact h
      · have h := h.2 c
        refine aw_aload_n (i := 0) d_X12_no_85 rfl rfl ?_
        refine aw_iload_n (i := 3) d_X12_no_86 rfl rfl ?_
        refine aw_putI fl_RX12_334 (by decide) (fin_no (r := (RX12, TX12, 68)) rfl rfl) d_X12_no_87 rfl ⟨rfl, rfl⟩ ?_
        refine aw_iinc (i := 3) (v := v3 + 1) d_X12_no_90 rfl rfl (by decide) ?_
        refine aw_goto (tgt := 57) d_X12_no_93 (by decide) ?_
        exact h
set_option maxRecDepth 20000 in
theorem vc_X12_no_101 {G : GG} {l : Launch} {d : Nat} {post : Option AVal → AS → Prop} {σ : AS} {kk nn : Nat} {v3 : Int32} {v4 : Int32} (hS : St σ) (h : ((((gI σ 13 48 0) ≤ v4 → post (some (xI (gI σ 13 48 0))) σ)) ∧ ((¬ (gI σ 13 48 0) ≤ v4 → (vp_in v4 40 ∧ (vp_in (gA σ 26 22 v4.toNatClampNeg) 40 ∧ (vp_in v4 40 ∧ (vp_in (gA σ 26 22 v4.toNatClampNeg) 40 ∧ AW G l M_X12_no (d + 1) post (sA σ 26 7 (gA σ 26 22 v4.toNatClampNeg).toNatClampNeg v3) kk nn 101 [some (xR (some (13, 0))), none, none, some (xI (gA σ 26 7 (gA σ 26 22 v4.toNatClampNeg).toNatClampNeg)), some (xI (v4 + 1)), none] [])))))))) : AW G l M_X12_no (d + 1) post σ kk nn 101 [some (xR (some (13, 0))), none, none, some (xI v3), some (xI v4), none] [] := by
  refine aw_iload (i := 4) d_X12_no_101 rfl ?_
  refine aw_aload_n (i := 0) d_X12_no_103 rfl rfl ?_
  refine aw_getI fl_RX12_334 rfl d_X12_no_104 ?_
  refine aw_icmp_ge (tgt := 146) d_X12_no_107 (by decide) (fun c => ?_) (fun c => ?_)
  · have h := h.1 c
    refine aw_aload_n (i := 0) d_X12_no_146 rfl rfl ?_
    refine aw_getI fl_RX12_334 rfl d_X12_no_147 ?_
    exact aw_ret d_X12_no_150 rfl rfl h
  · have h := h.2 c
    refine aw_aload_n (i := 0) d_X12_no_110 rfl rfl ?_
    refine aw_getRv fl_RX12_39 rfl (r := some (26, 7)) (St.get hS 13 11 0 26 7 (by decide)) d_X12_no_111 ?_
    refine aw_aload_n (i := 0) d_X12_no_114 rfl rfl ?_
    refine aw_getRv fl_RX12_100 rfl (r := some (26, 22)) (St.get hS 13 47 0 26 22 (by decide)) d_X12_no_115 ?_
    refine aw_iload (i := 4) d_X12_no_118 rfl ?_
    obtain ⟨hq, h⟩ := h
    refine aw_iald d_X12_no_120 (by decide) (vp_of (St.len hS 26 22 40 (by decide)) hq) ?_
    obtain ⟨hq, h⟩ := h
    refine aw_iald d_X12_no_121 (by decide) (vp_of (St.len hS 26 7 40 (by decide)) hq) ?_
    refine aw_istore (i := 5) d_X12_no_122 (by decide) ?_
    refine aw_aload_n (i := 0) d_X12_no_124 rfl rfl ?_
    refine aw_getRv fl_RX12_39 rfl (r := some (26, 7)) (St.get hS 13 11 0 26 7 (by decide)) d_X12_no_125 ?_
    refine aw_aload_n (i := 0) d_X12_no_128 rfl rfl ?_
    refine aw_getRv fl_RX12_100 rfl (r := some (26, 22)) (St.get hS 13 47 0 26 22 (by decide)) d_X12_no_129 ?_
    refine aw_iload (i := 4) d_X12_no_132 rfl ?_
    obtain ⟨hq, h⟩ := h
    refine aw_iald d_X12_no_134 (by decide) (vp_of (St.len hS 26 22 40 (by decide)) hq) ?_
    refine aw_iload_n (i := 3) d_X12_no_135 rfl rfl ?_
    obtain ⟨hq, h⟩ := h
    refine aw_iast d_X12_no_136 (by decide) (vp_of (St.len hS 26 7 40 (by decide)) hq) ?_
    refine aw_iload (i := 5) d_X12_no_137 rfl ?_
    refine aw_istore_n (i := 3) d_X12_no_139 rfl (by decide) ?_
    refine aw_iinc (i := 4) (v := v4 + 1) d_X12_no_140 rfl rfl (by decide) ?_
    refine aw_goto (tgt := 101) d_X12_no_143 (by decide) ?_
    exact AW.weak h (by exact ⟨rfl, ⟨rfl, ⟨rfl, trivial⟩⟩⟩)
set_option maxRecDepth 20000 in
theorem vc_X12_moved {G : GG} {l : Launch} {d : Nat} {post : Option AVal → AS → Prop} {σ : AS} {kk nn : Nat} {a1 : Int32} (hS : St σ) (h : (((a1 < 0 → post (some (xI (-1))) (sI σ 13 0 0 0))) ∧ ((¬ a1 < 0 → ((((gI σ 13 48 0) ≤ a1 → post (some (xI (-1))) (sI σ 13 0 0 0))) ∧ ((¬ (gI σ 13 48 0) ≤ a1 → (vp_in a1 40 ∧ post (some (xI (gA (sI σ 13 0 0 0) 26 22 a1.toNatClampNeg))) (sI σ 13 0 0 0))))))))) : AW G l M_X12_moved d post σ kk nn 0 [some (xR (some (13, 0))), some (xI a1)] [] := by
  refine aw_aload_n (i := 0) d_X12_moved_0 rfl rfl ?_
  refine aw_iconst (x := 0) d_X12_moved_1 (by decide) ?_
  refine aw_putI fl_RX12_1 (by decide) (fin_no (r := (RX12, TX12, 68)) rfl rfl) d_X12_moved_2 rfl ⟨rfl, rfl⟩ ?_
  refine aw_iload_n (i := 1) d_X12_moved_5 rfl rfl ?_
  refine aw_if_lt (tgt := 26) d_X12_moved_6 (by decide) (fun c => ?_) (fun c => ?_)
  · have h := h.1 c
    refine aw_iconst (x := -1) d_X12_moved_26 (by decide) ?_
    exact aw_ret d_X12_moved_27 rfl rfl h
  · have h := h.2 c
    refine aw_iload_n (i := 1) d_X12_moved_9 rfl rfl ?_
    refine aw_aload_n (i := 0) d_X12_moved_10 rfl rfl ?_
    refine aw_getIv fl_RX12_334 rfl (x := gI σ 13 48 0) rfl d_X12_moved_11 ?_
    refine aw_icmp_ge (tgt := 26) d_X12_moved_14 (by decide) (fun c => ?_) (fun c => ?_)
    · have h := h.1 c
      refine aw_iconst (x := -1) d_X12_moved_26 (by decide) ?_
      exact aw_ret d_X12_moved_27 rfl rfl h
    · have h := h.2 c
      refine aw_aload_n (i := 0) d_X12_moved_17 rfl rfl ?_
      refine aw_getRv fl_RX12_100 rfl (r := some (26, 22)) (St.get (St.sI hS) 13 47 0 26 22 (by decide)) d_X12_moved_18 ?_
      refine aw_iload_n (i := 1) d_X12_moved_21 rfl rfl ?_
      obtain ⟨hq, h⟩ := h
      refine aw_iald d_X12_moved_22 (by decide) (vp_of (St.len (St.sI hS) 26 22 40 (by decide)) hq) ?_
      refine aw_goto (tgt := 27) d_X12_moved_23 (by decide) ?_
      exact aw_ret d_X12_moved_27 rfl rfl h
set_option maxRecDepth 20000 in
theorem vc_X12_readTerm {G : GG} {l : Launch} {d : Nat} {post : Option AVal → AS → Prop} {σ : AS} {kk nn : Nat}  (h : AMet G l M_X12_isWord d 0 0 [xR (some (13, 0)), xR (some (30, 13))] σ (retI (fun x2 σ1 => (St σ1 ∧ (((x2 = 0 → AMet G l M_X12_isWord d 0 0 [xR (some (13, 0)), xR (some (30, 14))] σ1 (retI (fun x4 σ3 => (St σ3 ∧ (((x4 = 0 → AMet G l M_X12_isWord d 0 0 [xR (some (13, 0)), xR (some (30, 15))] σ3 (retI (fun x6 σ5 => (St σ5 ∧ (((x6 = 0 → AMet G l M_X12_isWord d 0 0 [xR (some (13, 0)), xR (some (30, 16))] σ5 (retI (fun x8 σ7 => (St σ7 ∧ (((x8 = 0 → AMet G l M_X12_fails d 0 0 [xR (some (13, 0)), xI 1] σ7 (retV (fun σ9 => post none σ9)))) ∧ ((¬ x8 = 0 → (vp_in (gI σ7 13 49 0) 30 ∧ (((¬ (gA σ7 26 23 (gI σ7 13 49 0).toNatClampNeg) = 8 → (vp_in (gI σ7 13 49 0) 30 ∧ (AMet G l M_X12_next d 0 0 [xR (some (13, 0))] σ7 (retV (fun σ10 => (St σ10 ∧ (vp_in ((8 * (gI σ7 13 49 0)) + (gA σ7 26 23 (gI σ7 13 49 0).toNatClampNeg)) 240 ∧ (vp_in ((8 * (gI σ7 13 49 0)) + (gA σ7 26 23 (gI σ7 13 49 0).toNatClampNeg)) 240 ∧ (vp_in ((8 * (gI σ7 13 49 0)) + (gA σ7 26 23 (gI σ7 13 49 0).toNatClampNeg)) 240 ∧ (AMet G l M_X12_number d 0 0 [xR (some (13, 0)), xI 0, xI 99999] (sA (sA (sA σ10 26 24 ((8 * (gI σ7 13 49 0)) + (gA σ7 26 23 (gI σ7 13 49 0).toNatClampNeg)).toNatClampNeg 3) 26 25 ((8 * (gI σ7 13 49 0)) + (gA σ7 26 23 (gI σ7 13 49 0).toNatClampNeg)).toNatClampNeg 0) 21 3 ((8 * (gI σ7 13 49 0)) + (gA σ7 26 23 (gI σ7 13 49 0).toNatClampNeg)).toNatClampNeg (vp_nar .boolean 0)) (retI (fun x12 σ11 => (St σ11 ∧ (vp_in ((8 * (gI σ7 13 49 0)) + (gA σ7 26 23 (gI σ7 13 49 0).toNatClampNeg)) 240 ∧ (AMet G l M_X12_wants_ d 0 0 [xR (some (13, 0)), xR (some (30, 17))] (sA σ11 26 25 ((8 * (gI σ7 13 49 0)) + (gA σ7 26 23 (gI σ7 13 49 0).toNatClampNeg)).toNatClampNeg x12) (retV (fun σ13 => AW G l M_X12_readTerm (d + 1) post σ13 kk nn 157 [some (xR (some (13, 0))), some (xI 3), some (xI ((8 * (gI σ7 13 49 0)) + (gA σ7 26 23 (gI σ7 13 49 0).toNatClampNeg)))] [])))))))))))))))))) ∧ (((gA σ7 26 23 (gI σ7 13 49 0).toNatClampNeg) = 8 → AMet G l M_X12_fails d 0 0 [xR (some (13, 0)), xI 2] σ7 (retV (fun σ14 => post none σ14)))))))))))))) ∧ ((¬ x6 = 0 → (vp_in (gI σ5 13 49 0) 30 ∧ (((¬ (gA σ5 26 23 (gI σ5 13 49 0).toNatClampNeg) = 8 → (vp_in (gI σ5 13 49 0) 30 ∧ (AMet G l M_X12_next d 0 0 [xR (some (13, 0))] σ5 (retV (fun σ15 => (St σ15 ∧ (vp_in ((8 * (gI σ5 13 49 0)) + (gA σ5 26 23 (gI σ5 13 49 0).toNatClampNeg)) 240 ∧ (vp_in ((8 * (gI σ5 13 49 0)) + (gA σ5 26 23 (gI σ5 13 49 0).toNatClampNeg)) 240 ∧ (vp_in ((8 * (gI σ5 13 49 0)) + (gA σ5 26 23 (gI σ5 13 49 0).toNatClampNeg)) 240 ∧ (AMet G l M_X12_number d 0 0 [xR (some (13, 0)), xI 0, xI 99999] (sA (sA (sA σ15 26 24 ((8 * (gI σ5 13 49 0)) + (gA σ5 26 23 (gI σ5 13 49 0).toNatClampNeg)).toNatClampNeg 2) 26 25 ((8 * (gI σ5 13 49 0)) + (gA σ5 26 23 (gI σ5 13 49 0).toNatClampNeg)).toNatClampNeg 0) 21 3 ((8 * (gI σ5 13 49 0)) + (gA σ5 26 23 (gI σ5 13 49 0).toNatClampNeg)).toNatClampNeg (vp_nar .boolean 0)) (retI (fun x17 σ16 => (St σ16 ∧ (vp_in ((8 * (gI σ5 13 49 0)) + (gA σ5 26 23 (gI σ5 13 49 0).toNatClampNeg)) 240 ∧ (AMet G l M_X12_wants_ d 0 0 [xR (some (13, 0)), xR (some (30, 17))] (sA σ16 26 25 ((8 * (gI σ5 13 49 0)) + (gA σ5 26 23 (gI σ5 13 49 0).toNatClampNeg)).toNatClampNeg x17) (retV (fun σ18 => AW G l M_X12_readTerm (d + 1) post σ18 kk nn 157 [some (xR (some (13, 0))), some (xI 2), some (xI ((8 * (gI σ5 13 49 0)) + (gA σ5 26 23 (gI σ5 13 49 0).toNatClampNeg)))] [])))))))))))))))))) ∧ (((gA σ5 26 23 (gI σ5 13 49 0).toNatClampNeg) = 8 → AMet G l M_X12_fails d 0 0 [xR (some (13, 0)), xI 2] σ5 (retV (fun σ19 => post none σ19)))))))))))))) ∧ ((¬ x4 = 0 → (vp_in (gI σ3 13 49 0) 30 ∧ (((¬ (gA σ3 26 23 (gI σ3 13 49 0).toNatClampNeg) = 8 → (vp_in (gI σ3 13 49 0) 30 ∧ (AMet G l M_X12_next d 0 0 [xR (some (13, 0))] σ3 (retV (fun σ20 => (St σ20 ∧ (vp_in ((8 * (gI σ3 13 49 0)) + (gA σ3 26 23 (gI σ3 13 49 0).toNatClampNeg)) 240 ∧ (vp_in ((8 * (gI σ3 13 49 0)) + (gA σ3 26 23 (gI σ3 13 49 0).toNatClampNeg)) 240 ∧ (vp_in ((8 * (gI σ3 13 49 0)) + (gA σ3 26 23 (gI σ3 13 49 0).toNatClampNeg)) 240 ∧ (AMet G l M_X12_number d 0 0 [xR (some (13, 0)), xI 0, xI 99999] (sA (sA (sA σ20 26 24 ((8 * (gI σ3 13 49 0)) + (gA σ3 26 23 (gI σ3 13 49 0).toNatClampNeg)).toNatClampNeg 1) 26 25 ((8 * (gI σ3 13 49 0)) + (gA σ3 26 23 (gI σ3 13 49 0).toNatClampNeg)).toNatClampNeg 0) 21 3 ((8 * (gI σ3 13 49 0)) + (gA σ3 26 23 (gI σ3 13 49 0).toNatClampNeg)).toNatClampNeg (vp_nar .boolean 0)) (retI (fun x22 σ21 => (St σ21 ∧ (vp_in ((8 * (gI σ3 13 49 0)) + (gA σ3 26 23 (gI σ3 13 49 0).toNatClampNeg)) 240 ∧ (AMet G l M_X12_wants_ d 0 0 [xR (some (13, 0)), xR (some (30, 17))] (sA σ21 26 25 ((8 * (gI σ3 13 49 0)) + (gA σ3 26 23 (gI σ3 13 49 0).toNatClampNeg)).toNatClampNeg x22) (retV (fun σ23 => AW G l M_X12_readTerm (d + 1) post σ23 kk nn 157 [some (xR (some (13, 0))), some (xI 1), some (xI ((8 * (gI σ3 13 49 0)) + (gA σ3 26 23 (gI σ3 13 49 0).toNatClampNeg)))] [])))))))))))))))))) ∧ (((gA σ3 26 23 (gI σ3 13 49 0).toNatClampNeg) = 8 → AMet G l M_X12_fails d 0 0 [xR (some (13, 0)), xI 2] σ3 (retV (fun σ24 => post none σ24)))))))))))))) ∧ ((¬ x2 = 0 → (vp_in (gI σ1 13 49 0) 30 ∧ (((¬ (gA σ1 26 23 (gI σ1 13 49 0).toNatClampNeg) = 8 → (vp_in (gI σ1 13 49 0) 30 ∧ (AMet G l M_X12_next d 0 0 [xR (some (13, 0))] σ1 (retV (fun σ25 => (St σ25 ∧ (vp_in ((8 * (gI σ1 13 49 0)) + (gA σ1 26 23 (gI σ1 13 49 0).toNatClampNeg)) 240 ∧ (vp_in ((8 * (gI σ1 13 49 0)) + (gA σ1 26 23 (gI σ1 13 49 0).toNatClampNeg)) 240 ∧ (vp_in ((8 * (gI σ1 13 49 0)) + (gA σ1 26 23 (gI σ1 13 49 0).toNatClampNeg)) 240 ∧ AW G l M_X12_readTerm (d + 1) post (sA (sA (sA σ25 26 24 ((8 * (gI σ1 13 49 0)) + (gA σ1 26 23 (gI σ1 13 49 0).toNatClampNeg)).toNatClampNeg 0) 26 25 ((8 * (gI σ1 13 49 0)) + (gA σ1 26 23 (gI σ1 13 49 0).toNatClampNeg)).toNatClampNeg 0) 21 3 ((8 * (gI σ1 13 49 0)) + (gA σ1 26 23 (gI σ1 13 49 0).toNatClampNeg)).toNatClampNeg (vp_nar .boolean 0)) kk nn 157 [some (xR (some (13, 0))), some (xI 0), some (xI ((8 * (gI σ1 13 49 0)) + (gA σ1 26 23 (gI σ1 13 49 0).toNatClampNeg)))] [])))))))))) ∧ (((gA σ1 26 23 (gI σ1 13 49 0).toNatClampNeg) = 8 → AMet G l M_X12_fails d 0 0 [xR (some (13, 0)), xI 2] σ1 (retV (fun σ26 => post none σ26))))))))))))) : AW G l M_X12_readTerm (d + 1) post σ kk nn 0 [some (xR (some (13, 0))), none, none] [] := by
  refine aw_aload_n (i := 0) d_X12_readTerm_0 rfl rfl ?_
  refine aw_ldcwS (tx := "base") (i := 13) (by decide +kernel) (by decide) d_X12_readTerm_1 ?_
  refine aw_callV0 (as := [xR (some (30, 13))]) mw_X12_isWord (by decide +kernel) ml_RX12_234 rfl d_X12_readTerm_4 rfl (Nat.le_of_ble_eq_true rfl) (AMet.mono h (aw_toI (fun x2 σ1 h => ?_)))
  obtain ⟨hS1, h⟩ := h
  refine aw_if_eq (tgt := 14) d_X12_readTerm_7 (by decide) (fun c => ?_) (fun c => ?_)
  · have h := h.1 c
    refine aw_aload_n (i := 0) d_X12_readTerm_14 rfl rfl ?_
    refine aw_ldcwS (tx := "over") (i := 14) (by decide +kernel) (by decide) d_X12_readTerm_15 ?_
    refine aw_callV0 (as := [xR (some (30, 14))]) mw_X12_isWord (by decide +kernel) ml_RX12_234 rfl d_X12_readTerm_18 rfl (Nat.le_of_ble_eq_true rfl) (AMet.mono h (aw_toI (fun x4 σ3 h => ?_)))
    obtain ⟨hS3, h⟩ := h
    refine aw_if_eq (tgt := 28) d_X12_readTerm_21 (by decide) (fun c => ?_) (fun c => ?_)
    · have h := h.1 c
      refine aw_aload_n (i := 0) d_X12_readTerm_28 rfl rfl ?_
      refine aw_ldcwS (tx := "before") (i := 15) (by decide +kernel) (by decide) d_X12_readTerm_29 ?_
      refine aw_callV0 (as := [xR (some (30, 15))]) mw_X12_isWord (by decide +kernel) ml_RX12_234 rfl d_X12_readTerm_32 rfl (Nat.le_of_ble_eq_true rfl) (AMet.mono h (aw_toI (fun x6 σ5 h => ?_)))
      obtain ⟨hS5, h⟩ := h
      refine aw_if_eq (tgt := 42) d_X12_readTerm_35 (by decide) (fun c => ?_) (fun c => ?_)
      · have h := h.1 c
        refine aw_aload_n (i := 0) d_X12_readTerm_42 rfl rfl ?_
        refine aw_ldcwS (tx := "after") (i := 16) (by decide +kernel) (by decide) d_X12_readTerm_43 ?_
        refine aw_callV0 (as := [xR (some (30, 16))]) mw_X12_isWord (by decide +kernel) ml_RX12_234 rfl d_X12_readTerm_46 rfl (Nat.le_of_ble_eq_true rfl) (AMet.mono h (aw_toI (fun x8 σ7 h => ?_)))
        obtain ⟨hS7, h⟩ := h
        refine aw_if_eq (tgt := 56) d_X12_readTerm_49 (by decide) (fun c => ?_) (fun c => ?_)
        · have h := h.1 c
          refine aw_iconst (x := -1) d_X12_readTerm_56 (by decide) ?_
          refine aw_istore_n (i := 1) d_X12_readTerm_57 rfl (by decide) ?_
          refine aw_iload_n (i := 1) d_X12_readTerm_58 rfl rfl ?_
          refine aw_iconst (x := -1) d_X12_readTerm_59 (by decide) ?_
          refine aw_icmp_ne (tgt := 69) d_X12_readTerm_60 (by decide) (fun c => absurd c (by decide)) (fun _ => ?_)
          refine aw_aload_n (i := 0) d_X12_readTerm_63 rfl rfl ?_
          refine aw_iconst (x := 1) d_X12_readTerm_64 (by decide) ?_
          refine aw_callV0 (as := [xI 1]) mw_X12_fails (by decide +kernel) ml_RX12_230 rfl d_X12_readTerm_65 rfl (Nat.le_of_ble_eq_true rfl) (AMet.mono h (aw_toV (fun σ9 h => ?_)))
          exact aw_vret d_X12_readTerm_68 rfl h
        · have h := h.2 c
          refine aw_iconst (x := 3) d_X12_readTerm_52 (by decide) ?_
          refine aw_goto (tgt := 57) d_X12_readTerm_53 (by decide) ?_
          refine aw_istore_n (i := 1) d_X12_readTerm_57 rfl (by decide) ?_
          refine aw_iload_n (i := 1) d_X12_readTerm_58 rfl rfl ?_
          refine aw_iconst (x := -1) d_X12_readTerm_59 (by decide) ?_
          refine aw_icmp_ne (tgt := 69) d_X12_readTerm_60 (by decide) (fun _ => ?_) (fun c => absurd c (by decide))
          refine aw_aload_n (i := 0) d_X12_readTerm_69 rfl rfl ?_
          refine aw_getRv fl_RX12_103 rfl (r := some (26, 23)) (St.get hS7 13 50 0 26 23 (by decide)) d_X12_readTerm_70 ?_
          refine aw_aload_n (i := 0) d_X12_readTerm_73 rfl rfl ?_
          refine aw_getI fl_RX12_345 rfl d_X12_readTerm_74 ?_
          obtain ⟨hq, h⟩ := h
          refine aw_iald d_X12_readTerm_77 (by decide) (vp_of (St.len hS7 26 23 30 (by decide)) hq) ?_
          refine aw_bipush (x := 8) d_X12_readTerm_78 (by decide) ?_
          refine aw_icmp_ne (tgt := 89) d_X12_readTerm_80 (by decide) (fun c => ?_) (fun c => ?_)
          · have h := h.1 c
            refine aw_bipush (x := 8) d_X12_readTerm_89 (by decide) ?_
            refine aw_aload_n (i := 0) d_X12_readTerm_91 rfl rfl ?_
            refine aw_getI fl_RX12_345 rfl d_X12_readTerm_92 ?_
            refine aw_imul d_X12_readTerm_95 ?_
            refine aw_aload_n (i := 0) d_X12_readTerm_96 rfl rfl ?_
            refine aw_getRv fl_RX12_103 rfl (r := some (26, 23)) (St.get hS7 13 50 0 26 23 (by decide)) d_X12_readTerm_97 ?_
            refine aw_aload_n (i := 0) d_X12_readTerm_100 rfl rfl ?_
            refine aw_getI fl_RX12_345 rfl d_X12_readTerm_101 ?_
            obtain ⟨hq, h⟩ := h
            refine aw_iald d_X12_readTerm_104 (by decide) (vp_of (St.len hS7 26 23 30 (by decide)) hq) ?_
            refine aw_iadd d_X12_readTerm_105 ?_
            refine aw_istore_n (i := 2) d_X12_readTerm_106 rfl (by decide) ?_
            refine aw_aload_n (i := 0) d_X12_readTerm_107 rfl rfl ?_
            refine aw_callV0 (as := []) mw_X12_next (by decide +kernel) ml_RX12_208 rfl d_X12_readTerm_108 rfl (Nat.le_of_ble_eq_true rfl) (AMet.mono h (aw_toV (fun σ10 h => ?_)))
            obtain ⟨hS10, h⟩ := h
            refine aw_aload_n (i := 0) d_X12_readTerm_111 rfl rfl ?_
            refine aw_getRv fl_RX12_106 rfl (r := some (26, 24)) (St.get hS10 13 51 0 26 24 (by decide)) d_X12_readTerm_112 ?_
            refine aw_iload_n (i := 2) d_X12_readTerm_115 rfl rfl ?_
            refine aw_iload_n (i := 1) d_X12_readTerm_116 rfl rfl ?_
            obtain ⟨hq, h⟩ := h
            refine aw_iast d_X12_readTerm_117 (by decide) (vp_of (St.len hS10 26 24 240 (by decide)) hq) ?_
            refine aw_aload_n (i := 0) d_X12_readTerm_118 rfl rfl ?_
            refine aw_getRv fl_RX12_109 rfl (r := some (26, 25)) (St.get (St.sA hS10) 13 52 0 26 25 (by decide)) d_X12_readTerm_119 ?_
            refine aw_iload_n (i := 2) d_X12_readTerm_122 rfl rfl ?_
            refine aw_iconst (x := 0) d_X12_readTerm_123 (by decide) ?_
            obtain ⟨hq, h⟩ := h
            refine aw_iast d_X12_readTerm_124 (by decide) (vp_of (St.len (St.sA hS10) 26 25 240 (by decide)) hq) ?_
            refine aw_aload_n (i := 0) d_X12_readTerm_125 rfl rfl ?_
            refine aw_getRv fl_RX12_115 rfl (r := some (21, 3)) (St.get (St.sA (St.sA hS10)) 13 54 0 21 3 (by decide)) d_X12_readTerm_126 ?_
            refine aw_iload_n (i := 2) d_X12_readTerm_129 rfl rfl ?_
            refine aw_iconst (x := 0) d_X12_readTerm_130 (by decide) ?_
            obtain ⟨hq, h⟩ := h
            refine aw_zast d_X12_readTerm_131 (vp_of (St.len (St.sA (St.sA hS10)) 21 3 240 (by decide)) hq) ?_
            refine aw_iload_n (i := 1) d_X12_readTerm_132 rfl rfl ?_
            refine aw_if_le (tgt := 157) d_X12_readTerm_133 (by decide) (fun c => absurd c (by decide)) (fun _ => ?_)
            refine aw_aload_n (i := 0) d_X12_readTerm_136 rfl rfl ?_
            refine aw_getRv fl_RX12_109 rfl (r := some (26, 25)) (St.get (St.sA (St.sA (St.sA hS10))) 13 52 0 26 25 (by decide)) d_X12_readTerm_137 ?_
            refine aw_iload_n (i := 2) d_X12_readTerm_140 rfl rfl ?_
            refine aw_aload_n (i := 0) d_X12_readTerm_141 rfl rfl ?_
            refine aw_iconst (x := 0) d_X12_readTerm_142 (by decide) ?_
            refine aw_ldcwI (x := 99999) d_X12_readTerm_143 ct_RX12_275 ?_
            refine aw_callV0 (as := [xI 0, xI 99999]) mw_X12_number (by decide +kernel) ml_RX12_260 rfl d_X12_readTerm_146 rfl (Nat.le_of_ble_eq_true rfl) (AMet.mono h (aw_toI (fun x12 σ11 h => ?_)))
            obtain ⟨hS11, h⟩ := h
            obtain ⟨hq, h⟩ := h
            refine aw_iast d_X12_readTerm_149 (by decide) (vp_of (St.len hS11 26 25 240 (by decide)) hq) ?_
            refine aw_aload_n (i := 0) d_X12_readTerm_150 rfl rfl ?_
            refine aw_ldcwS (tx := "each") (i := 17) (by decide +kernel) (by decide) d_X12_readTerm_151 ?_
            refine aw_callV0 (as := [xR (some (30, 17))]) mw_X12_wants_ (by decide +kernel) ml_RX12_281 rfl d_X12_readTerm_154 rfl (Nat.le_of_ble_eq_true rfl) (AMet.mono h (aw_toV (fun σ13 h => ?_)))
            exact h
          · have h := h.2 c
            refine aw_aload_n (i := 0) d_X12_readTerm_83 rfl rfl ?_
            refine aw_iconst (x := 2) d_X12_readTerm_84 (by decide) ?_
            refine aw_callV0 (as := [xI 2]) mw_X12_fails (by decide +kernel) ml_RX12_230 rfl d_X12_readTerm_85 rfl (Nat.le_of_ble_eq_true rfl) (AMet.mono h (aw_toV (fun σ14 h => ?_)))
            exact aw_vret d_X12_readTerm_88 rfl h
      · have h := h.2 c
        refine aw_iconst (x := 2) d_X12_readTerm_38 (by decide) ?_
        refine aw_goto (tgt := 57) d_X12_readTerm_39 (by decide) ?_
        refine aw_istore_n (i := 1) d_X12_readTerm_57 rfl (by decide) ?_
        refine aw_iload_n (i := 1) d_X12_readTerm_58 rfl rfl ?_
        refine aw_iconst (x := -1) d_X12_readTerm_59 (by decide) ?_
        refine aw_icmp_ne (tgt := 69) d_X12_readTerm_60 (by decide) (fun _ => ?_) (fun c => absurd c (by decide))
        refine aw_aload_n (i := 0) d_X12_readTerm_69 rfl rfl ?_
        refine aw_getRv fl_RX12_103 rfl (r := some (26, 23)) (St.get hS5 13 50 0 26 23 (by decide)) d_X12_readTerm_70 ?_
        refine aw_aload_n (i := 0) d_X12_readTerm_73 rfl rfl ?_
        refine aw_getI fl_RX12_345 rfl d_X12_readTerm_74 ?_
        obtain ⟨hq, h⟩ := h
        refine aw_iald d_X12_readTerm_77 (by decide) (vp_of (St.len hS5 26 23 30 (by decide)) hq) ?_
        refine aw_bipush (x := 8) d_X12_readTerm_78 (by decide) ?_
        refine aw_icmp_ne (tgt := 89) d_X12_readTerm_80 (by decide) (fun c => ?_) (fun c => ?_)
        · have h := h.1 c
          refine aw_bipush (x := 8) d_X12_readTerm_89 (by decide) ?_
          refine aw_aload_n (i := 0) d_X12_readTerm_91 rfl rfl ?_
          refine aw_getI fl_RX12_345 rfl d_X12_readTerm_92 ?_
          refine aw_imul d_X12_readTerm_95 ?_
          refine aw_aload_n (i := 0) d_X12_readTerm_96 rfl rfl ?_
          refine aw_getRv fl_RX12_103 rfl (r := some (26, 23)) (St.get hS5 13 50 0 26 23 (by decide)) d_X12_readTerm_97 ?_
          refine aw_aload_n (i := 0) d_X12_readTerm_100 rfl rfl ?_
          refine aw_getI fl_RX12_345 rfl d_X12_readTerm_101 ?_
          obtain ⟨hq, h⟩ := h
          refine aw_iald d_X12_readTerm_104 (by decide) (vp_of (St.len hS5 26 23 30 (by decide)) hq) ?_
          refine aw_iadd d_X12_readTerm_105 ?_
          refine aw_istore_n (i := 2) d_X12_readTerm_106 rfl (by decide) ?_
          refine aw_aload_n (i := 0) d_X12_readTerm_107 rfl rfl ?_
          refine aw_callV0 (as := []) mw_X12_next (by decide +kernel) ml_RX12_208 rfl d_X12_readTerm_108 rfl (Nat.le_of_ble_eq_true rfl) (AMet.mono h (aw_toV (fun σ15 h => ?_)))
          obtain ⟨hS15, h⟩ := h
          refine aw_aload_n (i := 0) d_X12_readTerm_111 rfl rfl ?_
          refine aw_getRv fl_RX12_106 rfl (r := some (26, 24)) (St.get hS15 13 51 0 26 24 (by decide)) d_X12_readTerm_112 ?_
          refine aw_iload_n (i := 2) d_X12_readTerm_115 rfl rfl ?_
          refine aw_iload_n (i := 1) d_X12_readTerm_116 rfl rfl ?_
          obtain ⟨hq, h⟩ := h
          refine aw_iast d_X12_readTerm_117 (by decide) (vp_of (St.len hS15 26 24 240 (by decide)) hq) ?_
          refine aw_aload_n (i := 0) d_X12_readTerm_118 rfl rfl ?_
          refine aw_getRv fl_RX12_109 rfl (r := some (26, 25)) (St.get (St.sA hS15) 13 52 0 26 25 (by decide)) d_X12_readTerm_119 ?_
          refine aw_iload_n (i := 2) d_X12_readTerm_122 rfl rfl ?_
          refine aw_iconst (x := 0) d_X12_readTerm_123 (by decide) ?_
          obtain ⟨hq, h⟩ := h
          refine aw_iast d_X12_readTerm_124 (by decide) (vp_of (St.len (St.sA hS15) 26 25 240 (by decide)) hq) ?_
          refine aw_aload_n (i := 0) d_X12_readTerm_125 rfl rfl ?_
          refine aw_getRv fl_RX12_115 rfl (r := some (21, 3)) (St.get (St.sA (St.sA hS15)) 13 54 0 21 3 (by decide)) d_X12_readTerm_126 ?_
          refine aw_iload_n (i := 2) d_X12_readTerm_129 rfl rfl ?_
          refine aw_iconst (x := 0) d_X12_readTerm_130 (by decide) ?_
          obtain ⟨hq, h⟩ := h
          refine aw_zast d_X12_readTerm_131 (vp_of (St.len (St.sA (St.sA hS15)) 21 3 240 (by decide)) hq) ?_
          refine aw_iload_n (i := 1) d_X12_readTerm_132 rfl rfl ?_
          refine aw_if_le (tgt := 157) d_X12_readTerm_133 (by decide) (fun c => absurd c (by decide)) (fun _ => ?_)
          refine aw_aload_n (i := 0) d_X12_readTerm_136 rfl rfl ?_
          refine aw_getRv fl_RX12_109 rfl (r := some (26, 25)) (St.get (St.sA (St.sA (St.sA hS15))) 13 52 0 26 25 (by decide)) d_X12_readTerm_137 ?_
          refine aw_iload_n (i := 2) d_X12_readTerm_140 rfl rfl ?_
          refine aw_aload_n (i := 0) d_X12_readTerm_141 rfl rfl ?_
          refine aw_iconst (x := 0) d_X12_readTerm_142 (by decide) ?_
          refine aw_ldcwI (x := 99999) d_X12_readTerm_143 ct_RX12_275 ?_
          refine aw_callV0 (as := [xI 0, xI 99999]) mw_X12_number (by decide +kernel) ml_RX12_260 rfl d_X12_readTerm_146 rfl (Nat.le_of_ble_eq_true rfl) (AMet.mono h (aw_toI (fun x17 σ16 h => ?_)))
          obtain ⟨hS16, h⟩ := h
          obtain ⟨hq, h⟩ := h
          refine aw_iast d_X12_readTerm_149 (by decide) (vp_of (St.len hS16 26 25 240 (by decide)) hq) ?_
          refine aw_aload_n (i := 0) d_X12_readTerm_150 rfl rfl ?_
          refine aw_ldcwS (tx := "each") (i := 17) (by decide +kernel) (by decide) d_X12_readTerm_151 ?_
          refine aw_callV0 (as := [xR (some (30, 17))]) mw_X12_wants_ (by decide +kernel) ml_RX12_281 rfl d_X12_readTerm_154 rfl (Nat.le_of_ble_eq_true rfl) (AMet.mono h (aw_toV (fun σ18 h => ?_)))
          exact h
        · have h := h.2 c
          refine aw_aload_n (i := 0) d_X12_readTerm_83 rfl rfl ?_
          refine aw_iconst (x := 2) d_X12_readTerm_84 (by decide) ?_
          refine aw_callV0 (as := [xI 2]) mw_X12_fails (by decide +kernel) ml_RX12_230 rfl d_X12_readTerm_85 rfl (Nat.le_of_ble_eq_true rfl) (AMet.mono h (aw_toV (fun σ19 h => ?_)))
          exact aw_vret d_X12_readTerm_88 rfl h
    · have h := h.2 c
      refine aw_iconst (x := 1) d_X12_readTerm_24 (by decide) ?_
      refine aw_goto (tgt := 57) d_X12_readTerm_25 (by decide) ?_
      refine aw_istore_n (i := 1) d_X12_readTerm_57 rfl (by decide) ?_
      refine aw_iload_n (i := 1) d_X12_readTerm_58 rfl rfl ?_
      refine aw_iconst (x := -1) d_X12_readTerm_59 (by decide) ?_
      refine aw_icmp_ne (tgt := 69) d_X12_readTerm_60 (by decide) (fun _ => ?_) (fun c => absurd c (by decide))
      refine aw_aload_n (i := 0) d_X12_readTerm_69 rfl rfl ?_
      refine aw_getRv fl_RX12_103 rfl (r := some (26, 23)) (St.get hS3 13 50 0 26 23 (by decide)) d_X12_readTerm_70 ?_
      refine aw_aload_n (i := 0) d_X12_readTerm_73 rfl rfl ?_
      refine aw_getI fl_RX12_345 rfl d_X12_readTerm_74 ?_
      obtain ⟨hq, h⟩ := h
      refine aw_iald d_X12_readTerm_77 (by decide) (vp_of (St.len hS3 26 23 30 (by decide)) hq) ?_
      refine aw_bipush (x := 8) d_X12_readTerm_78 (by decide) ?_
      refine aw_icmp_ne (tgt := 89) d_X12_readTerm_80 (by decide) (fun c => ?_) (fun c => ?_)
      · have h := h.1 c
        refine aw_bipush (x := 8) d_X12_readTerm_89 (by decide) ?_
        refine aw_aload_n (i := 0) d_X12_readTerm_91 rfl rfl ?_
        refine aw_getI fl_RX12_345 rfl d_X12_readTerm_92 ?_
        refine aw_imul d_X12_readTerm_95 ?_
        refine aw_aload_n (i := 0) d_X12_readTerm_96 rfl rfl ?_
        refine aw_getRv fl_RX12_103 rfl (r := some (26, 23)) (St.get hS3 13 50 0 26 23 (by decide)) d_X12_readTerm_97 ?_
        refine aw_aload_n (i := 0) d_X12_readTerm_100 rfl rfl ?_
        refine aw_getI fl_RX12_345 rfl d_X12_readTerm_101 ?_
        obtain ⟨hq, h⟩ := h
        refine aw_iald d_X12_readTerm_104 (by decide) (vp_of (St.len hS3 26 23 30 (by decide)) hq) ?_
        refine aw_iadd d_X12_readTerm_105 ?_
        refine aw_istore_n (i := 2) d_X12_readTerm_106 rfl (by decide) ?_
        refine aw_aload_n (i := 0) d_X12_readTerm_107 rfl rfl ?_
        refine aw_callV0 (as := []) mw_X12_next (by decide +kernel) ml_RX12_208 rfl d_X12_readTerm_108 rfl (Nat.le_of_ble_eq_true rfl) (AMet.mono h (aw_toV (fun σ20 h => ?_)))
        obtain ⟨hS20, h⟩ := h
        refine aw_aload_n (i := 0) d_X12_readTerm_111 rfl rfl ?_
        refine aw_getRv fl_RX12_106 rfl (r := some (26, 24)) (St.get hS20 13 51 0 26 24 (by decide)) d_X12_readTerm_112 ?_
        refine aw_iload_n (i := 2) d_X12_readTerm_115 rfl rfl ?_
        refine aw_iload_n (i := 1) d_X12_readTerm_116 rfl rfl ?_
        obtain ⟨hq, h⟩ := h
        refine aw_iast d_X12_readTerm_117 (by decide) (vp_of (St.len hS20 26 24 240 (by decide)) hq) ?_
        refine aw_aload_n (i := 0) d_X12_readTerm_118 rfl rfl ?_
        refine aw_getRv fl_RX12_109 rfl (r := some (26, 25)) (St.get (St.sA hS20) 13 52 0 26 25 (by decide)) d_X12_readTerm_119 ?_
        refine aw_iload_n (i := 2) d_X12_readTerm_122 rfl rfl ?_
        refine aw_iconst (x := 0) d_X12_readTerm_123 (by decide) ?_
        obtain ⟨hq, h⟩ := h
        refine aw_iast d_X12_readTerm_124 (by decide) (vp_of (St.len (St.sA hS20) 26 25 240 (by decide)) hq) ?_
        refine aw_aload_n (i := 0) d_X12_readTerm_125 rfl rfl ?_
        refine aw_getRv fl_RX12_115 rfl (r := some (21, 3)) (St.get (St.sA (St.sA hS20)) 13 54 0 21 3 (by decide)) d_X12_readTerm_126 ?_
        refine aw_iload_n (i := 2) d_X12_readTerm_129 rfl rfl ?_
        refine aw_iconst (x := 0) d_X12_readTerm_130 (by decide) ?_
        obtain ⟨hq, h⟩ := h
        refine aw_zast d_X12_readTerm_131 (vp_of (St.len (St.sA (St.sA hS20)) 21 3 240 (by decide)) hq) ?_
        refine aw_iload_n (i := 1) d_X12_readTerm_132 rfl rfl ?_
        refine aw_if_le (tgt := 157) d_X12_readTerm_133 (by decide) (fun c => absurd c (by decide)) (fun _ => ?_)
        refine aw_aload_n (i := 0) d_X12_readTerm_136 rfl rfl ?_
        refine aw_getRv fl_RX12_109 rfl (r := some (26, 25)) (St.get (St.sA (St.sA (St.sA hS20))) 13 52 0 26 25 (by decide)) d_X12_readTerm_137 ?_
        refine aw_iload_n (i := 2) d_X12_readTerm_140 rfl rfl ?_
        refine aw_aload_n (i := 0) d_X12_readTerm_141 rfl rfl ?_
        refine aw_iconst (x := 0) d_X12_readTerm_142 (by decide) ?_
        refine aw_ldcwI (x := 99999) d_X12_readTerm_143 ct_RX12_275 ?_
        refine aw_callV0 (as := [xI 0, xI 99999]) mw_X12_number (by decide +kernel) ml_RX12_260 rfl d_X12_readTerm_146 rfl (Nat.le_of_ble_eq_true rfl) (AMet.mono h (aw_toI (fun x22 σ21 h => ?_)))
        obtain ⟨hS21, h⟩ := h
        obtain ⟨hq, h⟩ := h
        refine aw_iast d_X12_readTerm_149 (by decide) (vp_of (St.len hS21 26 25 240 (by decide)) hq) ?_
        refine aw_aload_n (i := 0) d_X12_readTerm_150 rfl rfl ?_
        refine aw_ldcwS (tx := "each") (i := 17) (by decide +kernel) (by decide) d_X12_readTerm_151 ?_
        refine aw_callV0 (as := [xR (some (30, 17))]) mw_X12_wants_ (by decide +kernel) ml_RX12_281 rfl d_X12_readTerm_154 rfl (Nat.le_of_ble_eq_true rfl) (AMet.mono h (aw_toV (fun σ23 h => ?_)))
        exact h
      · have h := h.2 c
        refine aw_aload_n (i := 0) d_X12_readTerm_83 rfl rfl ?_
        refine aw_iconst (x := 2) d_X12_readTerm_84 (by decide) ?_
        refine aw_callV0 (as := [xI 2]) mw_X12_fails (by decide +kernel) ml_RX12_230 rfl d_X12_readTerm_85 rfl (Nat.le_of_ble_eq_true rfl) (AMet.mono h (aw_toV (fun σ24 h => ?_)))
        exact aw_vret d_X12_readTerm_88 rfl h
  · have h := h.2 c
    refine aw_iconst (x := 0) d_X12_readTerm_10 (by decide) ?_
    refine aw_goto (tgt := 57) d_X12_readTerm_11 (by decide) ?_
    refine aw_istore_n (i := 1) d_X12_readTerm_57 rfl (by decide) ?_
    refine aw_iload_n (i := 1) d_X12_readTerm_58 rfl rfl ?_
    refine aw_iconst (x := -1) d_X12_readTerm_59 (by decide) ?_
    refine aw_icmp_ne (tgt := 69) d_X12_readTerm_60 (by decide) (fun _ => ?_) (fun c => absurd c (by decide))
    refine aw_aload_n (i := 0) d_X12_readTerm_69 rfl rfl ?_
    refine aw_getRv fl_RX12_103 rfl (r := some (26, 23)) (St.get hS1 13 50 0 26 23 (by decide)) d_X12_readTerm_70 ?_
    refine aw_aload_n (i := 0) d_X12_readTerm_73 rfl rfl ?_
    refine aw_getI fl_RX12_345 rfl d_X12_readTerm_74 ?_
    obtain ⟨hq, h⟩ := h
    refine aw_iald d_X12_readTerm_77 (by decide) (vp_of (St.len hS1 26 23 30 (by decide)) hq) ?_
    refine aw_bipush (x := 8) d_X12_readTerm_78 (by decide) ?_
    refine aw_icmp_ne (tgt := 89) d_X12_readTerm_80 (by decide) (fun c => ?_) (fun c => ?_)
    · have h := h.1 c
      refine aw_bipush (x := 8) d_X12_readTerm_89 (by decide) ?_
      refine aw_aload_n (i := 0) d_X12_readTerm_91 rfl rfl ?_
      refine aw_getI fl_RX12_345 rfl d_X12_readTerm_92 ?_
      refine aw_imul d_X12_readTerm_95 ?_
      refine aw_aload_n (i := 0) d_X12_readTerm_96 rfl rfl ?_
      refine aw_getRv fl_RX12_103 rfl (r := some (26, 23)) (St.get hS1 13 50 0 26 23 (by decide)) d_X12_readTerm_97 ?_
      refine aw_aload_n (i := 0) d_X12_readTerm_100 rfl rfl ?_
      refine aw_getI fl_RX12_345 rfl d_X12_readTerm_101 ?_
      obtain ⟨hq, h⟩ := h
      refine aw_iald d_X12_readTerm_104 (by decide) (vp_of (St.len hS1 26 23 30 (by decide)) hq) ?_
      refine aw_iadd d_X12_readTerm_105 ?_
      refine aw_istore_n (i := 2) d_X12_readTerm_106 rfl (by decide) ?_
      refine aw_aload_n (i := 0) d_X12_readTerm_107 rfl rfl ?_
      refine aw_callV0 (as := []) mw_X12_next (by decide +kernel) ml_RX12_208 rfl d_X12_readTerm_108 rfl (Nat.le_of_ble_eq_true rfl) (AMet.mono h (aw_toV (fun σ25 h => ?_)))
      obtain ⟨hS25, h⟩ := h
      refine aw_aload_n (i := 0) d_X12_readTerm_111 rfl rfl ?_
      refine aw_getRv fl_RX12_106 rfl (r := some (26, 24)) (St.get hS25 13 51 0 26 24 (by decide)) d_X12_readTerm_112 ?_
      refine aw_iload_n (i := 2) d_X12_readTerm_115 rfl rfl ?_
      refine aw_iload_n (i := 1) d_X12_readTerm_116 rfl rfl ?_
      obtain ⟨hq, h⟩ := h
      refine aw_iast d_X12_readTerm_117 (by decide) (vp_of (St.len hS25 26 24 240 (by decide)) hq) ?_
      refine aw_aload_n (i := 0) d_X12_readTerm_118 rfl rfl ?_
      refine aw_getRv fl_RX12_109 rfl (r := some (26, 25)) (St.get (St.sA hS25) 13 52 0 26 25 (by decide)) d_X12_readTerm_119 ?_
      refine aw_iload_n (i := 2) d_X12_readTerm_122 rfl rfl ?_
      refine aw_iconst (x := 0) d_X12_readTerm_123 (by decide) ?_
      obtain ⟨hq, h⟩ := h
      refine aw_iast d_X12_readTerm_124 (by decide) (vp_of (St.len (St.sA hS25) 26 25 240 (by decide)) hq) ?_
      refine aw_aload_n (i := 0) d_X12_readTerm_125 rfl rfl ?_
      refine aw_getRv fl_RX12_115 rfl (r := some (21, 3)) (St.get (St.sA (St.sA hS25)) 13 54 0 21 3 (by decide)) d_X12_readTerm_126 ?_
      refine aw_iload_n (i := 2) d_X12_readTerm_129 rfl rfl ?_
      refine aw_iconst (x := 0) d_X12_readTerm_130 (by decide) ?_
      obtain ⟨hq, h⟩ := h
      refine aw_zast d_X12_readTerm_131 (vp_of (St.len (St.sA (St.sA hS25)) 21 3 240 (by decide)) hq) ?_
      refine aw_iload_n (i := 1) d_X12_readTerm_132 rfl rfl ?_
      refine aw_if_le (tgt := 157) d_X12_readTerm_133 (by decide) (fun _ => ?_) (fun c => absurd c (by decide))
      exact h
    · have h := h.2 c
      refine aw_aload_n (i := 0) d_X12_readTerm_83 rfl rfl ?_
      refine aw_iconst (x := 2) d_X12_readTerm_84 (by decide) ?_
      refine aw_callV0 (as := [xI 2]) mw_X12_fails (by decide +kernel) ml_RX12_230 rfl d_X12_readTerm_85 rfl (Nat.le_of_ble_eq_true rfl) (AMet.mono h (aw_toV (fun σ26 h => ?_)))
      exact aw_vret d_X12_readTerm_88 rfl h
set_option maxRecDepth 20000 in
theorem vc_X12_readTerm_157 {G : GG} {l : Launch} {d : Nat} {post : Option AVal → AS → Prop} {σ : AS} {kk nn : Nat} {v1 : Int32} {v2 : Int32} (hS : St σ) (h : AMet G l M_X12_number d 0 0 [xR (some (13, 0)), xI 0, xI 99999] σ (retI (fun x28 σ27 => (St σ27 ∧ (vp_in v2 240 ∧ (((v1 ≤ 0 → AW G l M_X12_readTerm (d + 1) post (sA σ27 26 26 v2.toNatClampNeg x28) kk nn 226 [some (xR (some (13, 0))), none, none] [])) ∧ ((¬ v1 ≤ 0 → (((¬ (gI σ27 13 24 0) = 0 → AW G l M_X12_readTerm (d + 1) post (sA σ27 26 26 v2.toNatClampNeg x28) kk nn 226 [some (xR (some (13, 0))), none, none] [])) ∧ (((gI σ27 13 24 0) = 0 → AMet G l M_X12_isWord d 0 0 [xR (some (13, 0)), xR (some (30, 18))] (sA σ27 26 26 v2.toNatClampNeg x28) (retI (fun x30 σ29 => (St σ29 ∧ (vp_in v2 240 ∧ (vp_in v2 240 ∧ (((¬ (gA (sA σ29 21 3 v2.toNatClampNeg (vp_nar .boolean x30)) 21 3 v2.toNatClampNeg) = 0 → AW G l M_X12_readTerm (d + 1) post (sA σ29 21 3 v2.toNatClampNeg (vp_nar .boolean x30)) kk nn 222 [some (xR (some (13, 0))), none, none] [])) ∧ (((gA (sA σ29 21 3 v2.toNatClampNeg (vp_nar .boolean x30)) 21 3 v2.toNatClampNeg) = 0 → AMet G l M_X12_isWord d 0 0 [xR (some (13, 0)), xR (some (30, 19))] (sA σ29 21 3 v2.toNatClampNeg (vp_nar .boolean x30)) (retI (fun x32 σ31 => (((¬ x32 = 0 → AW G l M_X12_readTerm (d + 1) post σ31 kk nn 222 [some (xR (some (13, 0))), none, none] [])) ∧ ((x32 = 0 → AMet G l M_X12_fails d 0 0 [xR (some (13, 0)), xI 1] σ31 (retV (fun σ33 => AW G l M_X12_readTerm (d + 1) post σ33 kk nn 226 [some (xR (some (13, 0))), none, none] [])))))))))))))))))))))))))) : AW G l M_X12_readTerm (d + 1) post σ kk nn 157 [some (xR (some (13, 0))), some (xI v1), some (xI v2)] [] := by
  refine aw_aload_n (i := 0) d_X12_readTerm_157 rfl rfl ?_
  refine aw_getRv fl_RX12_112 rfl (r := some (26, 26)) (St.get hS 13 53 0 26 26 (by decide)) d_X12_readTerm_158 ?_
  refine aw_iload_n (i := 2) d_X12_readTerm_161 rfl rfl ?_
  refine aw_aload_n (i := 0) d_X12_readTerm_162 rfl rfl ?_
  refine aw_iconst (x := 0) d_X12_readTerm_163 (by decide) ?_
  refine aw_ldcwI (x := 99999) d_X12_readTerm_164 ct_RX12_275 ?_
  refine aw_callV0 (as := [xI 0, xI 99999]) mw_X12_number (by decide +kernel) ml_RX12_260 rfl d_X12_readTerm_167 rfl (Nat.le_of_ble_eq_true rfl) (AMet.mono h (aw_toI (fun x28 σ27 h => ?_)))
  obtain ⟨hS27, h⟩ := h
  obtain ⟨hq, h⟩ := h
  refine aw_iast d_X12_readTerm_170 (by decide) (vp_of (St.len hS27 26 26 240 (by decide)) hq) ?_
  refine aw_iload_n (i := 1) d_X12_readTerm_171 rfl rfl ?_
  refine aw_if_le (tgt := 226) d_X12_readTerm_172 (by decide) (fun c => ?_) (fun c => ?_)
  · have h := h.1 c
    exact AW.weak h (by exact ⟨rfl, trivial⟩)
  · have h := h.2 c
    refine aw_aload_n (i := 0) d_X12_readTerm_175 rfl rfl ?_
    refine aw_getIv fl_RX12_221 rfl (x := gI σ27 13 24 0) rfl d_X12_readTerm_176 ?_
    refine aw_if_ne (tgt := 226) d_X12_readTerm_179 (by decide) (fun c => ?_) (fun c => ?_)
    · have h := h.1 c
      exact AW.weak h (by exact ⟨rfl, trivial⟩)
    · have h := h.2 c
      refine aw_aload_n (i := 0) d_X12_readTerm_182 rfl rfl ?_
      refine aw_getRv fl_RX12_115 rfl (r := some (21, 3)) (St.get (St.sA hS27) 13 54 0 21 3 (by decide)) d_X12_readTerm_183 ?_
      refine aw_iload_n (i := 2) d_X12_readTerm_186 rfl rfl ?_
      refine aw_aload_n (i := 0) d_X12_readTerm_187 rfl rfl ?_
      refine aw_ldcwS (tx := "up") (i := 18) (by decide +kernel) (by decide) d_X12_readTerm_188 ?_
      refine aw_callV0 (as := [xR (some (30, 18))]) mw_X12_isWord (by decide +kernel) ml_RX12_234 rfl d_X12_readTerm_191 rfl (Nat.le_of_ble_eq_true rfl) (AMet.mono h (aw_toI (fun x30 σ29 h => ?_)))
      obtain ⟨hS29, h⟩ := h
      obtain ⟨hq, h⟩ := h
      refine aw_zast d_X12_readTerm_194 (vp_of (St.len hS29 21 3 240 (by decide)) hq) ?_
      refine aw_aload_n (i := 0) d_X12_readTerm_195 rfl rfl ?_
      refine aw_getRv fl_RX12_115 rfl (r := some (21, 3)) (St.get (St.sA hS29) 13 54 0 21 3 (by decide)) d_X12_readTerm_196 ?_
      refine aw_iload_n (i := 2) d_X12_readTerm_199 rfl rfl ?_
      obtain ⟨hq, h⟩ := h
      refine aw_zald d_X12_readTerm_200 (vp_of (St.len (St.sA hS29) 21 3 240 (by decide)) hq) ?_
      refine aw_if_ne (tgt := 222) d_X12_readTerm_201 (by decide) (fun c => ?_) (fun c => ?_)
      · have h := h.1 c
        exact AW.weak h (by exact ⟨rfl, trivial⟩)
      · have h := h.2 c
        refine aw_aload_n (i := 0) d_X12_readTerm_204 rfl rfl ?_
        refine aw_ldcwS (tx := "down") (i := 19) (by decide +kernel) (by decide) d_X12_readTerm_205 ?_
        refine aw_callV0 (as := [xR (some (30, 19))]) mw_X12_isWord (by decide +kernel) ml_RX12_234 rfl d_X12_readTerm_208 rfl (Nat.le_of_ble_eq_true rfl) (AMet.mono h (aw_toI (fun x32 σ31 h => ?_)))
        refine aw_if_ne (tgt := 222) d_X12_readTerm_211 (by decide) (fun c => ?_) (fun c => ?_)
        · have h := h.1 c
          exact AW.weak h (by exact ⟨rfl, trivial⟩)
        · have h := h.2 c
          refine aw_aload_n (i := 0) d_X12_readTerm_214 rfl rfl ?_
          refine aw_iconst (x := 1) d_X12_readTerm_215 (by decide) ?_
          refine aw_callV0 (as := [xI 1]) mw_X12_fails (by decide +kernel) ml_RX12_230 rfl d_X12_readTerm_216 rfl (Nat.le_of_ble_eq_true rfl) (AMet.mono h (aw_toV (fun σ33 h => ?_)))
          refine aw_goto (tgt := 226) d_X12_readTerm_219 (by decide) ?_
          exact AW.weak h (by exact ⟨rfl, trivial⟩)
set_option maxRecDepth 20000 in
theorem vc_X12_readTerm_222 {G : GG} {l : Launch} {d : Nat} {post : Option AVal → AS → Prop} {σ : AS} {kk nn : Nat}  (h : AMet G l M_X12_next d 0 0 [xR (some (13, 0))] σ (retV (fun σ34 => AW G l M_X12_readTerm (d + 1) post σ34 kk nn 226 [some (xR (some (13, 0))), none, none] []))) : AW G l M_X12_readTerm (d + 1) post σ kk nn 222 [some (xR (some (13, 0))), none, none] [] := by
  refine aw_aload_n (i := 0) d_X12_readTerm_222 rfl rfl ?_
  refine aw_callV0 (as := []) mw_X12_next (by decide +kernel) ml_RX12_208 rfl d_X12_readTerm_223 rfl (Nat.le_of_ble_eq_true rfl) (AMet.mono h (aw_toV (fun σ34 h => ?_)))
  exact h
set_option maxRecDepth 20000 in
theorem vc_X12_readTerm_226 {G : GG} {l : Launch} {d : Nat} {post : Option AVal → AS → Prop} {σ : AS} {kk nn : Nat}  (h : AMet G l M_X12_wants d 0 0 [xR (some (13, 0)), xI 59] σ (retV (fun σ35 => (St σ35 ∧ (vp_in (gI σ35 13 49 0) 30 ∧ (vp_in (gI σ35 13 49 0) 30 ∧ post none (sA σ35 26 23 (gI σ35 13 49 0).toNatClampNeg ((gA σ35 26 23 (gI σ35 13 49 0).toNatClampNeg) + 1)))))))) : AW G l M_X12_readTerm (d + 1) post σ kk nn 226 [some (xR (some (13, 0))), none, none] [] := by
  refine aw_aload_n (i := 0) d_X12_readTerm_226 rfl rfl ?_
  refine aw_bipush (x := 59) d_X12_readTerm_227 (by decide) ?_
  refine aw_callV0 (as := [xI 59]) mw_X12_wants (by decide +kernel) ml_RX12_253 rfl d_X12_readTerm_229 rfl (Nat.le_of_ble_eq_true rfl) (AMet.mono h (aw_toV (fun σ35 h => ?_)))
  obtain ⟨hS35, h⟩ := h
  refine aw_aload_n (i := 0) d_X12_readTerm_232 rfl rfl ?_
  refine aw_getRv fl_RX12_103 rfl (r := some (26, 23)) (St.get hS35 13 50 0 26 23 (by decide)) d_X12_readTerm_233 ?_
  refine aw_aload_n (i := 0) d_X12_readTerm_236 rfl rfl ?_
  refine aw_getI fl_RX12_345 rfl d_X12_readTerm_237 ?_
  refine aw_dup2 d_X12_readTerm_240 ?_
  obtain ⟨hq, h⟩ := h
  refine aw_iald d_X12_readTerm_241 (by decide) (vp_of (St.len hS35 26 23 30 (by decide)) hq) ?_
  refine aw_iconst (x := 1) d_X12_readTerm_242 (by decide) ?_
  refine aw_iadd d_X12_readTerm_243 ?_
  obtain ⟨hq, h⟩ := h
  refine aw_iast d_X12_readTerm_244 (by decide) (vp_of (St.len hS35 26 23 30 (by decide)) hq) ?_
  exact aw_vret d_X12_readTerm_245 rfl h
set_option maxRecDepth 20000 in
theorem vc_X12_agree {G : GG} {l : Launch} {d : Nat} {post : Option AVal → AS → Prop} {σ : AS} {kk nn : Nat}  (hS : St σ) (h : (((¬ (gI σ 13 49 0) = 30 → (vp_in (gI σ 13 49 0) 30 ∧ (AMet G l M_X12_starts d 0 0 [xR (some (13, 0)), xR (some (22, 0)), xI (gI σ 13 17 0), xI 0] (sA (sI (sI σ 13 0 0 0) 13 24 0 0) 26 23 (gI σ 13 49 0).toNatClampNeg 0) (retV (fun σ1 => AW G l M_X12_agree (d + 1) post σ1 kk nn 45 [some (xR (some (13, 0)))] [])))))) ∧ (((gI σ 13 49 0) = 30 → post (some (xI (-2))) (sI σ 13 0 0 0))))) : AW G l M_X12_agree (d + 1) post σ kk nn 0 [some (xR (some (13, 0)))] [] := by
  refine aw_aload_n (i := 0) d_X12_agree_0 rfl rfl ?_
  refine aw_iconst (x := 0) d_X12_agree_1 (by decide) ?_
  refine aw_putI fl_RX12_1 (by decide) (fin_no (r := (RX12, TX12, 68)) rfl rfl) d_X12_agree_2 rfl ⟨rfl, rfl⟩ ?_
  refine aw_aload_n (i := 0) d_X12_agree_5 rfl rfl ?_
  refine aw_getIv fl_RX12_345 rfl (x := gI σ 13 49 0) rfl d_X12_agree_6 ?_
  refine aw_bipush (x := 30) d_X12_agree_9 (by decide) ?_
  refine aw_icmp_ne (tgt := 17) d_X12_agree_11 (by decide) (fun c => ?_) (fun c => ?_)
  · have h := h.1 c
    refine aw_aload_n (i := 0) d_X12_agree_17 rfl rfl ?_
    refine aw_iconst (x := 0) d_X12_agree_18 (by decide) ?_
    refine aw_putI fl_RX12_221 (by decide) (fin_no (r := (RX12, TX12, 68)) rfl rfl) d_X12_agree_19 rfl ⟨rfl, rfl⟩ ?_
    refine aw_aload_n (i := 0) d_X12_agree_22 rfl rfl ?_
    refine aw_getRv fl_RX12_103 rfl (r := some (26, 23)) (St.get (St.sI (St.sI hS)) 13 50 0 26 23 (by decide)) d_X12_agree_23 ?_
    refine aw_aload_n (i := 0) d_X12_agree_26 rfl rfl ?_
    refine aw_getIv fl_RX12_345 rfl (x := gI σ 13 49 0) rfl d_X12_agree_27 ?_
    refine aw_iconst (x := 0) d_X12_agree_30 (by decide) ?_
    obtain ⟨hq, h⟩ := h
    refine aw_iast d_X12_agree_31 (by decide) (vp_of (St.len (St.sI (St.sI hS)) 26 23 30 (by decide)) hq) ?_
    refine aw_aload_n (i := 0) d_X12_agree_32 rfl rfl ?_
    refine aw_aload_n (i := 0) d_X12_agree_33 rfl rfl ?_
    refine aw_getRv fl_RX12_48 rfl (r := some (22, 0)) (St.get (St.sA (St.sI (St.sI hS))) 13 16 0 22 0 (by decide)) d_X12_agree_34 ?_
    refine aw_aload_n (i := 0) d_X12_agree_37 rfl rfl ?_
    refine aw_getIv fl_RX12_177 rfl (x := gI σ 13 17 0) rfl d_X12_agree_38 ?_
    refine aw_iconst (x := 0) d_X12_agree_41 (by decide) ?_
    refine aw_callV0 (as := [xR (some (22, 0)), xI (gI σ 13 17 0), xI 0]) mw_X12_starts (by decide +kernel) ml_RX12_288 rfl d_X12_agree_42 rfl (Nat.le_of_ble_eq_true rfl) (AMet.mono h (aw_toV (fun σ1 h => ?_)))
    exact h
  · have h := h.2 c
    refine aw_bipush (x := -2) d_X12_agree_14 (by decide) ?_
    exact aw_ret d_X12_agree_16 rfl rfl h
set_option maxRecDepth 20000 in
theorem vc_X12_agree_45 {G : GG} {l : Launch} {d : Nat} {post : Option AVal → AS → Prop} {σ : AS} {kk nn : Nat}  (h : (((¬ (gI σ 13 24 0) = 0 → (((¬ (gI σ 13 24 0) = 0 → ((((gI σ 13 24 0) = 0 → post (some (xI (((gI σ 13 49 0) + 1) - 1))) (sI (sI (sI σ 13 17 0 0) 13 26 0 (gI σ 13 25 0)) 13 49 0 ((gI σ 13 49 0) + 1)))) ∧ ((¬ (gI σ 13 24 0) = 0 → post (some (xI ((-2) - (gI σ 13 24 0)))) (sI (sI σ 13 17 0 0) 13 26 0 (gI σ 13 25 0))))))) ∧ (((gI σ 13 24 0) = 0 → ((((gI σ 13 24 0) = 0 → post (some (xI (((gI σ 13 49 0) + 1) - 1))) (sI (sI (sI σ 13 17 0 0) 13 26 0 (-1)) 13 49 0 ((gI σ 13 49 0) + 1)))) ∧ ((¬ (gI σ 13 24 0) = 0 → post (some (xI ((-2) - (gI σ 13 24 0)))) (sI (sI σ 13 17 0 0) 13 26 0 (-1)))))))))) ∧ (((gI σ 13 24 0) = 0 → ((((gI σ 13 22 0) = 0 → (((¬ (gI σ 13 24 0) = 0 → ((((gI σ 13 24 0) = 0 → post (some (xI (((gI σ 13 49 0) + 1) - 1))) (sI (sI (sI σ 13 17 0 0) 13 26 0 (gI σ 13 25 0)) 13 49 0 ((gI σ 13 49 0) + 1)))) ∧ ((¬ (gI σ 13 24 0) = 0 → post (some (xI ((-2) - (gI σ 13 24 0)))) (sI (sI σ 13 17 0 0) 13 26 0 (gI σ 13 25 0))))))) ∧ (((gI σ 13 24 0) = 0 → ((((gI σ 13 24 0) = 0 → post (some (xI (((gI σ 13 49 0) + 1) - 1))) (sI (sI (sI σ 13 17 0 0) 13 26 0 (-1)) 13 49 0 ((gI σ 13 49 0) + 1)))) ∧ ((¬ (gI σ 13 24 0) = 0 → post (some (xI ((-2) - (gI σ 13 24 0)))) (sI (sI σ 13 17 0 0) 13 26 0 (-1)))))))))) ∧ ((¬ (gI σ 13 22 0) = 0 → AMet G l M_X12_readTerm d 0 0 [xR (some (13, 0))] σ (retV (fun σ2 => AW G l M_X12_agree (d + 1) post σ2 kk nn 45 [some (xR (some (13, 0)))] []))))))))) : AW G l M_X12_agree (d + 1) post σ kk nn 45 [some (xR (some (13, 0)))] [] := by
  refine aw_aload_n (i := 0) d_X12_agree_45 rfl rfl ?_
  refine aw_getI fl_RX12_221 rfl d_X12_agree_46 ?_
  refine aw_if_ne (tgt := 66) d_X12_agree_49 (by decide) (fun c => ?_) (fun c => ?_)
  · have h := h.1 c
    refine aw_aload_n (i := 0) d_X12_agree_66 rfl rfl ?_
    refine aw_iconst (x := 0) d_X12_agree_67 (by decide) ?_
    refine aw_putI fl_RX12_177 (by decide) (fin_no (r := (RX12, TX12, 68)) rfl rfl) d_X12_agree_68 rfl ⟨rfl, rfl⟩ ?_
    refine aw_aload_n (i := 0) d_X12_agree_71 rfl rfl ?_
    refine aw_aload_n (i := 0) d_X12_agree_72 rfl rfl ?_
    refine aw_getIv fl_RX12_221 rfl (x := gI σ 13 24 0) rfl d_X12_agree_73 ?_
    refine aw_if_ne (tgt := 83) d_X12_agree_76 (by decide) (fun c => ?_) (fun c => ?_)
    · have h := h.1 c
      refine aw_aload_n (i := 0) d_X12_agree_83 rfl rfl ?_
      refine aw_getIv fl_RX12_224 rfl (x := gI σ 13 25 0) rfl d_X12_agree_84 ?_
      refine aw_putI fl_RX12_52 (by decide) (fin_no (r := (RX12, TX12, 68)) rfl rfl) d_X12_agree_87 rfl ⟨rfl, rfl⟩ ?_
      refine aw_aload_n (i := 0) d_X12_agree_90 rfl rfl ?_
      refine aw_getIv fl_RX12_221 rfl (x := gI σ 13 24 0) rfl d_X12_agree_91 ?_
      refine aw_if_eq (tgt := 105) d_X12_agree_94 (by decide) (fun c => ?_) (fun c => ?_)
      · have h := h.1 c
        refine aw_aload_n (i := 0) d_X12_agree_105 rfl rfl ?_
        refine aw_dupR d_X12_agree_106 ?_
        refine aw_getIv fl_RX12_345 rfl (x := gI σ 13 49 0) rfl d_X12_agree_107 ?_
        refine aw_iconst (x := 1) d_X12_agree_110 (by decide) ?_
        refine aw_iadd d_X12_agree_111 ?_
        refine aw_putI fl_RX12_345 (by decide) (fin_no (r := (RX12, TX12, 68)) rfl rfl) d_X12_agree_112 rfl ⟨rfl, rfl⟩ ?_
        refine aw_aload_n (i := 0) d_X12_agree_115 rfl rfl ?_
        refine aw_getIv fl_RX12_345 rfl (x := ((gI σ 13 49 0) + 1)) (gI_self (σ := (sI (sI σ 13 17 0 0) 13 26 0 (gI σ 13 25 0))) (c := 13) (f := 49) (i := 0) (v := ((gI σ 13 49 0) + 1))) d_X12_agree_116 ?_
        refine aw_iconst (x := 1) d_X12_agree_119 (by decide) ?_
        refine aw_isub d_X12_agree_120 ?_
        exact aw_ret d_X12_agree_121 rfl rfl h
      · have h := h.2 c
        refine aw_bipush (x := -2) d_X12_agree_97 (by decide) ?_
        refine aw_aload_n (i := 0) d_X12_agree_99 rfl rfl ?_
        refine aw_getIv fl_RX12_221 rfl (x := gI σ 13 24 0) rfl d_X12_agree_100 ?_
        refine aw_isub d_X12_agree_103 ?_
        exact aw_ret d_X12_agree_104 rfl rfl h
    · have h := h.2 c
      refine aw_iconst (x := -1) d_X12_agree_79 (by decide) ?_
      refine aw_goto (tgt := 87) d_X12_agree_80 (by decide) ?_
      refine aw_putI fl_RX12_52 (by decide) (fin_no (r := (RX12, TX12, 68)) rfl rfl) d_X12_agree_87 rfl ⟨rfl, rfl⟩ ?_
      refine aw_aload_n (i := 0) d_X12_agree_90 rfl rfl ?_
      refine aw_getIv fl_RX12_221 rfl (x := gI σ 13 24 0) rfl d_X12_agree_91 ?_
      refine aw_if_eq (tgt := 105) d_X12_agree_94 (by decide) (fun c => ?_) (fun c => ?_)
      · have h := h.1 c
        refine aw_aload_n (i := 0) d_X12_agree_105 rfl rfl ?_
        refine aw_dupR d_X12_agree_106 ?_
        refine aw_getIv fl_RX12_345 rfl (x := gI σ 13 49 0) rfl d_X12_agree_107 ?_
        refine aw_iconst (x := 1) d_X12_agree_110 (by decide) ?_
        refine aw_iadd d_X12_agree_111 ?_
        refine aw_putI fl_RX12_345 (by decide) (fin_no (r := (RX12, TX12, 68)) rfl rfl) d_X12_agree_112 rfl ⟨rfl, rfl⟩ ?_
        refine aw_aload_n (i := 0) d_X12_agree_115 rfl rfl ?_
        refine aw_getIv fl_RX12_345 rfl (x := ((gI σ 13 49 0) + 1)) (gI_self (σ := (sI (sI σ 13 17 0 0) 13 26 0 (-1))) (c := 13) (f := 49) (i := 0) (v := ((gI σ 13 49 0) + 1))) d_X12_agree_116 ?_
        refine aw_iconst (x := 1) d_X12_agree_119 (by decide) ?_
        refine aw_isub d_X12_agree_120 ?_
        exact aw_ret d_X12_agree_121 rfl rfl h
      · have h := h.2 c
        refine aw_bipush (x := -2) d_X12_agree_97 (by decide) ?_
        refine aw_aload_n (i := 0) d_X12_agree_99 rfl rfl ?_
        refine aw_getIv fl_RX12_221 rfl (x := gI σ 13 24 0) rfl d_X12_agree_100 ?_
        refine aw_isub d_X12_agree_103 ?_
        exact aw_ret d_X12_agree_104 rfl rfl h
  · have h := h.2 c
    refine aw_aload_n (i := 0) d_X12_agree_52 rfl rfl ?_
    refine aw_getI fl_RX12_192 rfl d_X12_agree_53 ?_
    refine aw_if_eq (tgt := 66) d_X12_agree_56 (by decide) (fun c => ?_) (fun c => ?_)
    · have h := h.1 c
      refine aw_aload_n (i := 0) d_X12_agree_66 rfl rfl ?_
      refine aw_iconst (x := 0) d_X12_agree_67 (by decide) ?_
      refine aw_putI fl_RX12_177 (by decide) (fin_no (r := (RX12, TX12, 68)) rfl rfl) d_X12_agree_68 rfl ⟨rfl, rfl⟩ ?_
      refine aw_aload_n (i := 0) d_X12_agree_71 rfl rfl ?_
      refine aw_aload_n (i := 0) d_X12_agree_72 rfl rfl ?_
      refine aw_getIv fl_RX12_221 rfl (x := gI σ 13 24 0) rfl d_X12_agree_73 ?_
      refine aw_if_ne (tgt := 83) d_X12_agree_76 (by decide) (fun c => ?_) (fun c => ?_)
      · have h := h.1 c
        refine aw_aload_n (i := 0) d_X12_agree_83 rfl rfl ?_
        refine aw_getIv fl_RX12_224 rfl (x := gI σ 13 25 0) rfl d_X12_agree_84 ?_
        refine aw_putI fl_RX12_52 (by decide) (fin_no (r := (RX12, TX12, 68)) rfl rfl) d_X12_agree_87 rfl ⟨rfl, rfl⟩ ?_
        refine aw_aload_n (i := 0) d_X12_agree_90 rfl rfl ?_
        refine aw_getIv fl_RX12_221 rfl (x := gI σ 13 24 0) rfl d_X12_agree_91 ?_
        refine aw_if_eq (tgt := 105) d_X12_agree_94 (by decide) (fun c => ?_) (fun c => ?_)
        · have h := h.1 c
          refine aw_aload_n (i := 0) d_X12_agree_105 rfl rfl ?_
          refine aw_dupR d_X12_agree_106 ?_
          refine aw_getIv fl_RX12_345 rfl (x := gI σ 13 49 0) rfl d_X12_agree_107 ?_
          refine aw_iconst (x := 1) d_X12_agree_110 (by decide) ?_
          refine aw_iadd d_X12_agree_111 ?_
          refine aw_putI fl_RX12_345 (by decide) (fin_no (r := (RX12, TX12, 68)) rfl rfl) d_X12_agree_112 rfl ⟨rfl, rfl⟩ ?_
          refine aw_aload_n (i := 0) d_X12_agree_115 rfl rfl ?_
          refine aw_getIv fl_RX12_345 rfl (x := ((gI σ 13 49 0) + 1)) (gI_self (σ := (sI (sI σ 13 17 0 0) 13 26 0 (gI σ 13 25 0))) (c := 13) (f := 49) (i := 0) (v := ((gI σ 13 49 0) + 1))) d_X12_agree_116 ?_
          refine aw_iconst (x := 1) d_X12_agree_119 (by decide) ?_
          refine aw_isub d_X12_agree_120 ?_
          exact aw_ret d_X12_agree_121 rfl rfl h
        · have h := h.2 c
          refine aw_bipush (x := -2) d_X12_agree_97 (by decide) ?_
          refine aw_aload_n (i := 0) d_X12_agree_99 rfl rfl ?_
          refine aw_getIv fl_RX12_221 rfl (x := gI σ 13 24 0) rfl d_X12_agree_100 ?_
          refine aw_isub d_X12_agree_103 ?_
          exact aw_ret d_X12_agree_104 rfl rfl h
      · have h := h.2 c
        refine aw_iconst (x := -1) d_X12_agree_79 (by decide) ?_
        refine aw_goto (tgt := 87) d_X12_agree_80 (by decide) ?_
        refine aw_putI fl_RX12_52 (by decide) (fin_no (r := (RX12, TX12, 68)) rfl rfl) d_X12_agree_87 rfl ⟨rfl, rfl⟩ ?_
        refine aw_aload_n (i := 0) d_X12_agree_90 rfl rfl ?_
        refine aw_getIv fl_RX12_221 rfl (x := gI σ 13 24 0) rfl d_X12_agree_91 ?_
        refine aw_if_eq (tgt := 105) d_X12_agree_94 (by decide) (fun c => ?_) (fun c => ?_)
        · have h := h.1 c
          refine aw_aload_n (i := 0) d_X12_agree_105 rfl rfl ?_
          refine aw_dupR d_X12_agree_106 ?_
          refine aw_getIv fl_RX12_345 rfl (x := gI σ 13 49 0) rfl d_X12_agree_107 ?_
          refine aw_iconst (x := 1) d_X12_agree_110 (by decide) ?_
          refine aw_iadd d_X12_agree_111 ?_
          refine aw_putI fl_RX12_345 (by decide) (fin_no (r := (RX12, TX12, 68)) rfl rfl) d_X12_agree_112 rfl ⟨rfl, rfl⟩ ?_
          refine aw_aload_n (i := 0) d_X12_agree_115 rfl rfl ?_
          refine aw_getIv fl_RX12_345 rfl (x := ((gI σ 13 49 0) + 1)) (gI_self (σ := (sI (sI σ 13 17 0 0) 13 26 0 (-1))) (c := 13) (f := 49) (i := 0) (v := ((gI σ 13 49 0) + 1))) d_X12_agree_116 ?_
          refine aw_iconst (x := 1) d_X12_agree_119 (by decide) ?_
          refine aw_isub d_X12_agree_120 ?_
          exact aw_ret d_X12_agree_121 rfl rfl h
        · have h := h.2 c
          refine aw_bipush (x := -2) d_X12_agree_97 (by decide) ?_
          refine aw_aload_n (i := 0) d_X12_agree_99 rfl rfl ?_
          refine aw_getIv fl_RX12_221 rfl (x := gI σ 13 24 0) rfl d_X12_agree_100 ?_
          refine aw_isub d_X12_agree_103 ?_
          exact aw_ret d_X12_agree_104 rfl rfl h
    · have h := h.2 c
      refine aw_aload_n (i := 0) d_X12_agree_59 rfl rfl ?_
      refine aw_callV0 (as := []) mw_X12_readTerm (by decide +kernel) ml_RX12_354 rfl d_X12_agree_60 rfl (Nat.le_of_ble_eq_true rfl) (AMet.mono h (aw_toV (fun σ2 h => ?_)))
      refine aw_goto (tgt := 45) d_X12_agree_63 (by decide) ?_
      exact h
set_option maxRecDepth 20000 in
theorem vc_X12_quarters {G : GG} {l : Launch} {d : Nat} {post : Option AVal → AS → Prop} {σ : AS} {kk nn : Nat} {a1 : Int32} {a2 : Int32} (h : (((0 < a1 → (((a2 = 0 → post (some (xI (a1 / 15))) σ)) ∧ ((¬ a2 = 0 → post (some (xI ((a1 + 14) / 15))) σ))))) ∧ ((¬ 0 < a1 → post (some (xI 0)) σ)))) : AW G l M_X12_quarters d post σ kk nn 0 [some (xI a1), some (xI a2)] [] := by
  refine aw_iload_n (i := 0) d_X12_quarters_0 rfl rfl ?_
  refine aw_if_gt (tgt := 8) d_X12_quarters_1 (by decide) (fun c => ?_) (fun c => ?_)
  · have h := h.1 c
    refine aw_iload_n (i := 1) d_X12_quarters_8 rfl rfl ?_
    refine aw_if_eq (tgt := 22) d_X12_quarters_9 (by decide) (fun c => ?_) (fun c => ?_)
    · have h := h.1 c
      refine aw_iload_n (i := 0) d_X12_quarters_22 rfl rfl ?_
      refine aw_bipush (x := 15) d_X12_quarters_23 (by decide) ?_
      refine aw_idiv d_X12_quarters_25 (by decide) ?_
      exact aw_ret d_X12_quarters_26 rfl rfl h
    · have h := h.2 c
      refine aw_iload_n (i := 0) d_X12_quarters_12 rfl rfl ?_
      refine aw_bipush (x := 14) d_X12_quarters_13 (by decide) ?_
      refine aw_iadd d_X12_quarters_15 ?_
      refine aw_bipush (x := 15) d_X12_quarters_16 (by decide) ?_
      refine aw_idiv d_X12_quarters_18 (by decide) ?_
      refine aw_goto (tgt := 26) d_X12_quarters_19 (by decide) ?_
      exact aw_ret d_X12_quarters_26 rfl rfl h
  · have h := h.2 c
    refine aw_iconst (x := 0) d_X12_quarters_4 (by decide) ?_
    refine aw_goto (tgt := 26) d_X12_quarters_5 (by decide) ?_
    exact aw_ret d_X12_quarters_26 rfl rfl h
set_option maxRecDepth 20000 in
theorem vc_X12_worth {G : GG} {l : Launch} {d : Nat} {post : Option AVal → AS → Prop} {σ : AS} {kk nn : Nat} {a1 : Int32} {a2 : Int32} {a3 : Int32} (h : AW G l M_X12_worth (d + 1) post σ kk nn 9 [some (xR (some (13, 0))), some (xI a1), some (xI a2), some (xI a3), some (xI 0), some (xI (8 * a1)), none, none] []) : AW G l M_X12_worth (d + 1) post σ kk nn 0 [some (xR (some (13, 0))), some (xI a1), some (xI a2), some (xI a3), none, none, none, none] [] := by
  refine aw_iconst (x := 0) d_X12_worth_0 (by decide) ?_
  refine aw_istore (i := 4) d_X12_worth_1 (by decide) ?_
  refine aw_bipush (x := 8) d_X12_worth_3 (by decide) ?_
  refine aw_iload_n (i := 1) d_X12_worth_5 rfl rfl ?_
  refine aw_imul d_X12_worth_6 ?_
  refine aw_istore (i := 5) d_X12_worth_7 (by decide) ?_
  exact h
set_option maxRecDepth 20000 in
theorem vc_X12_worth_9 {G : GG} {l : Launch} {d : Nat} {post : Option AVal → AS → Prop} {σ : AS} {kk nn : Nat} {v1 : Int32} {v2 : Int32} {v3 : Int32} {v4 : Int32} {v5 : Int32} (hS : St σ) (h : (((v1 = (-1) → post (some (xI v4)) σ)) ∧ ((¬ v1 = (-1) → (vp_in v1 30 ∧ (((((8 * v1) + (gA σ 26 23 v1.toNatClampNeg)) ≤ v5 → post (some (xI v4)) σ)) ∧ ((¬ ((8 * v1) + (gA σ 26 23 v1.toNatClampNeg)) ≤ v5 → (vp_in v5 240 ∧ (vp_in v5 240 ∧ (vp_in v5 240 ∧ ((((gA σ 26 24 v5.toNatClampNeg) = 0 → AW G l M_X12_worth (d + 1) post σ kk nn 9 [some (xR (some (13, 0))), some (xI v1), some (xI v2), some (xI v3), some (xI (v4 + (gA σ 26 26 v5.toNatClampNeg))), some (xI (v5 + 1)), none, none] [])) ∧ (((gA σ 26 24 v5.toNatClampNeg) = 1 → (vp_in v5 240 ∧ (AMet G l M_X12_quarters d 0 0 [xI ((v3 - v2) - (gA σ 26 25 v5.toNatClampNeg)), xI (gA σ 21 3 v5.toNatClampNeg)] σ (retI (fun x2 σ1 => AW G l M_X12_worth (d + 1) post σ1 kk nn 9 [some (xR (some (13, 0))), some (xI v1), some (xI v2), some (xI v3), some (xI (v4 + ((gA σ 26 26 v5.toNatClampNeg) * x2))), some (xI (v5 + 1)), none, none] [])))))) ∧ (((gA σ 26 24 v5.toNatClampNeg) = 2 → (vp_in v5 240 ∧ (AMet G l M_X12_quarters d 0 0 [xI ((gA σ 26 25 v5.toNatClampNeg) - v2), xI (gA σ 21 3 v5.toNatClampNeg)] σ (retI (fun x4 σ3 => AW G l M_X12_worth (d + 1) post σ3 kk nn 9 [some (xR (some (13, 0))), some (xI v1), some (xI v2), some (xI v3), some (xI (v4 + ((gA σ 26 26 v5.toNatClampNeg) * x4))), some (xI (v5 + 1)), none, none] [])))))) ∧ ((((gA σ 26 24 v5.toNatClampNeg).toInt < 0 ∨ 2 < (gA σ 26 24 v5.toNatClampNeg).toInt) → (vp_in v5 240 ∧ (AMet G l M_X12_quarters d 0 0 [xI (v3 - (gA σ 26 25 v5.toNatClampNeg)), xI (gA σ 21 3 v5.toNatClampNeg)] σ (retI (fun x6 σ5 => AW G l M_X12_worth (d + 1) post σ5 kk nn 9 [some (xR (some (13, 0))), some (xI v1), some (xI v2), some (xI v3), some (xI (v4 + ((gA σ 26 26 v5.toNatClampNeg) * x6))), some (xI (v5 + 1)), none, none] [])))))))))))))))))) : AW G l M_X12_worth (d + 1) post σ kk nn 9 [some (xR (some (13, 0))), some (xI v1), some (xI v2), some (xI v3), some (xI v4), some (xI v5), none, none] [] := by
  refine aw_iload_n (i := 1) d_X12_worth_9 rfl rfl ?_
  refine aw_iconst (x := -1) d_X12_worth_10 (by decide) ?_
  refine aw_icmp_eq (tgt := 170) d_X12_worth_11 (by decide) (fun c => ?_) (fun c => ?_)
  · have h := h.1 c
    refine aw_iload (i := 4) d_X12_worth_170 rfl ?_
    exact aw_ret d_X12_worth_172 rfl rfl h
  · have h := h.2 c
    refine aw_iload (i := 5) d_X12_worth_14 rfl ?_
    refine aw_bipush (x := 8) d_X12_worth_16 (by decide) ?_
    refine aw_iload_n (i := 1) d_X12_worth_18 rfl rfl ?_
    refine aw_imul d_X12_worth_19 ?_
    refine aw_aload_n (i := 0) d_X12_worth_20 rfl rfl ?_
    refine aw_getRv fl_RX12_103 rfl (r := some (26, 23)) (St.get hS 13 50 0 26 23 (by decide)) d_X12_worth_21 ?_
    refine aw_iload_n (i := 1) d_X12_worth_24 rfl rfl ?_
    obtain ⟨hq, h⟩ := h
    refine aw_iald d_X12_worth_25 (by decide) (vp_of (St.len hS 26 23 30 (by decide)) hq) ?_
    refine aw_iadd d_X12_worth_26 ?_
    refine aw_icmp_ge (tgt := 170) d_X12_worth_27 (by decide) (fun c => ?_) (fun c => ?_)
    · have h := h.1 c
      refine aw_iload (i := 4) d_X12_worth_170 rfl ?_
      exact aw_ret d_X12_worth_172 rfl rfl h
    · have h := h.2 c
      refine aw_aload_n (i := 0) d_X12_worth_30 rfl rfl ?_
      refine aw_getRv fl_RX12_109 rfl (r := some (26, 25)) (St.get hS 13 52 0 26 25 (by decide)) d_X12_worth_31 ?_
      refine aw_iload (i := 5) d_X12_worth_34 rfl ?_
      obtain ⟨hq, h⟩ := h
      refine aw_iald d_X12_worth_36 (by decide) (vp_of (St.len hS 26 25 240 (by decide)) hq) ?_
      refine aw_istore (i := 6) d_X12_worth_37 (by decide) ?_
      refine aw_aload_n (i := 0) d_X12_worth_39 rfl rfl ?_
      refine aw_getRv fl_RX12_112 rfl (r := some (26, 26)) (St.get hS 13 53 0 26 26 (by decide)) d_X12_worth_40 ?_
      refine aw_iload (i := 5) d_X12_worth_43 rfl ?_
      obtain ⟨hq, h⟩ := h
      refine aw_iald d_X12_worth_45 (by decide) (vp_of (St.len hS 26 26 240 (by decide)) hq) ?_
      refine aw_istore (i := 7) d_X12_worth_46 (by decide) ?_
      refine aw_aload_n (i := 0) d_X12_worth_48 rfl rfl ?_
      refine aw_getRv fl_RX12_106 rfl (r := some (26, 24)) (St.get hS 13 51 0 26 24 (by decide)) d_X12_worth_49 ?_
      refine aw_iload (i := 5) d_X12_worth_52 rfl ?_
      obtain ⟨hq, h⟩ := h
      refine aw_iald d_X12_worth_54 (by decide) (vp_of (St.len hS 26 24 240 (by decide)) hq) ?_
      by_cases c0 : (gA σ 26 24 v5.toNatClampNeg) = 0
      · have c := c0
        have h := h.1 c
        refine aw_sw (k := 0) (off := 25) (tgt := 80) d_X12_worth_55 c (by decide) (by decide) (by decide) (by decide) ?_
        refine aw_iload (i := 4) d_X12_worth_80 rfl ?_
        refine aw_iload (i := 7) d_X12_worth_82 rfl ?_
        refine aw_iadd d_X12_worth_84 ?_
        refine aw_istore (i := 4) d_X12_worth_85 (by decide) ?_
        refine aw_goto (tgt := 164) d_X12_worth_87 (by decide) ?_
        refine aw_iinc (i := 5) (v := v5 + 1) d_X12_worth_164 rfl rfl (by decide) ?_
        refine aw_goto (tgt := 9) d_X12_worth_167 (by decide) ?_
        exact AW.weak h (by exact ⟨rfl, ⟨rfl, ⟨rfl, ⟨rfl, ⟨rfl, ⟨rfl, trivial⟩⟩⟩⟩⟩⟩)
      by_cases c1 : (gA σ 26 24 v5.toNatClampNeg) = 1
      · have c := c1
        have h := h.2.1 c
        refine aw_sw (k := 1) (off := 35) (tgt := 90) d_X12_worth_55 c (by decide) (by decide) (by decide) (by decide) ?_
        refine aw_iload (i := 4) d_X12_worth_90 rfl ?_
        refine aw_iload (i := 7) d_X12_worth_92 rfl ?_
        refine aw_iload_n (i := 3) d_X12_worth_94 rfl rfl ?_
        refine aw_iload_n (i := 2) d_X12_worth_95 rfl rfl ?_
        refine aw_isub d_X12_worth_96 ?_
        refine aw_iload (i := 6) d_X12_worth_97 rfl ?_
        refine aw_isub d_X12_worth_99 ?_
        refine aw_aload_n (i := 0) d_X12_worth_100 rfl rfl ?_
        refine aw_getRv fl_RX12_115 rfl (r := some (21, 3)) (St.get hS 13 54 0 21 3 (by decide)) d_X12_worth_101 ?_
        refine aw_iload (i := 5) d_X12_worth_104 rfl ?_
        obtain ⟨hq, h⟩ := h
        refine aw_zald d_X12_worth_106 (vp_of (St.len hS 21 3 240 (by decide)) hq) ?_
        refine aw_callS0 (as := [xI ((v3 - v2) - (gA σ 26 25 v5.toNatClampNeg)), xI (gA σ 21 3 v5.toNatClampNeg)]) mw_X12_quarters ml_RX12_357 rfl d_X12_worth_107 rfl (Nat.le_of_ble_eq_true rfl) (AMet.mono h (aw_toI (fun x2 σ1 h => ?_)))
        refine aw_imul d_X12_worth_110 ?_
        refine aw_iadd d_X12_worth_111 ?_
        refine aw_istore (i := 4) d_X12_worth_112 (by decide) ?_
        refine aw_goto (tgt := 164) d_X12_worth_114 (by decide) ?_
        refine aw_iinc (i := 5) (v := v5 + 1) d_X12_worth_164 rfl rfl (by decide) ?_
        refine aw_goto (tgt := 9) d_X12_worth_167 (by decide) ?_
        exact AW.weak h (by exact ⟨rfl, ⟨rfl, ⟨rfl, ⟨rfl, ⟨rfl, ⟨rfl, trivial⟩⟩⟩⟩⟩⟩)
      by_cases c2 : (gA σ 26 24 v5.toNatClampNeg) = 2
      · have c := c2
        have h := h.2.2.1 c
        refine aw_sw (k := 2) (off := 62) (tgt := 117) d_X12_worth_55 c (by decide) (by decide) (by decide) (by decide) ?_
        refine aw_iload (i := 4) d_X12_worth_117 rfl ?_
        refine aw_iload (i := 7) d_X12_worth_119 rfl ?_
        refine aw_iload (i := 6) d_X12_worth_121 rfl ?_
        refine aw_iload_n (i := 2) d_X12_worth_123 rfl rfl ?_
        refine aw_isub d_X12_worth_124 ?_
        refine aw_aload_n (i := 0) d_X12_worth_125 rfl rfl ?_
        refine aw_getRv fl_RX12_115 rfl (r := some (21, 3)) (St.get hS 13 54 0 21 3 (by decide)) d_X12_worth_126 ?_
        refine aw_iload (i := 5) d_X12_worth_129 rfl ?_
        obtain ⟨hq, h⟩ := h
        refine aw_zald d_X12_worth_131 (vp_of (St.len hS 21 3 240 (by decide)) hq) ?_
        refine aw_callS0 (as := [xI ((gA σ 26 25 v5.toNatClampNeg) - v2), xI (gA σ 21 3 v5.toNatClampNeg)]) mw_X12_quarters ml_RX12_357 rfl d_X12_worth_132 rfl (Nat.le_of_ble_eq_true rfl) (AMet.mono h (aw_toI (fun x4 σ3 h => ?_)))
        refine aw_imul d_X12_worth_135 ?_
        refine aw_iadd d_X12_worth_136 ?_
        refine aw_istore (i := 4) d_X12_worth_137 (by decide) ?_
        refine aw_goto (tgt := 164) d_X12_worth_139 (by decide) ?_
        refine aw_iinc (i := 5) (v := v5 + 1) d_X12_worth_164 rfl rfl (by decide) ?_
        refine aw_goto (tgt := 9) d_X12_worth_167 (by decide) ?_
        exact AW.weak h (by exact ⟨rfl, ⟨rfl, ⟨rfl, ⟨rfl, ⟨rfl, ⟨rfl, trivial⟩⟩⟩⟩⟩⟩)
      have c : (gA σ 26 24 v5.toNatClampNeg).toInt < 0 ∨ 2 < (gA σ 26 24 v5.toNatClampNeg).toInt := by
        have q0 : ¬ (gA σ 26 24 v5.toNatClampNeg).toInt = 0 := fun e => c0 (i32_eq (e.trans (by decide)))
        have q1 : ¬ (gA σ 26 24 v5.toNatClampNeg).toInt = 1 := fun e => c1 (i32_eq (e.trans (by decide)))
        have q2 : ¬ (gA σ 26 24 v5.toNatClampNeg).toInt = 2 := fun e => c2 (i32_eq (e.trans (by decide)))
        omega
      have h := h.2.2.2 c
      refine aw_switchOut (tgt := 142) d_X12_worth_55 c (by decide) ?_
      refine aw_iload (i := 4) d_X12_worth_142 rfl ?_
      refine aw_iload (i := 7) d_X12_worth_144 rfl ?_
      refine aw_iload_n (i := 3) d_X12_worth_146 rfl rfl ?_
      refine aw_iload (i := 6) d_X12_worth_147 rfl ?_
      refine aw_isub d_X12_worth_149 ?_
      refine aw_aload_n (i := 0) d_X12_worth_150 rfl rfl ?_
      refine aw_getRv fl_RX12_115 rfl (r := some (21, 3)) (St.get hS 13 54 0 21 3 (by decide)) d_X12_worth_151 ?_
      refine aw_iload (i := 5) d_X12_worth_154 rfl ?_
      obtain ⟨hq, h⟩ := h
      refine aw_zald d_X12_worth_156 (vp_of (St.len hS 21 3 240 (by decide)) hq) ?_
      refine aw_callS0 (as := [xI (v3 - (gA σ 26 25 v5.toNatClampNeg)), xI (gA σ 21 3 v5.toNatClampNeg)]) mw_X12_quarters ml_RX12_357 rfl d_X12_worth_157 rfl (Nat.le_of_ble_eq_true rfl) (AMet.mono h (aw_toI (fun x6 σ5 h => ?_)))
      refine aw_imul d_X12_worth_160 ?_
      refine aw_iadd d_X12_worth_161 ?_
      refine aw_istore (i := 4) d_X12_worth_162 (by decide) ?_
      refine aw_iinc (i := 5) (v := v5 + 1) d_X12_worth_164 rfl rfl (by decide) ?_
      refine aw_goto (tgt := 9) d_X12_worth_167 (by decide) ?_
      exact AW.weak h (by exact ⟨rfl, ⟨rfl, ⟨rfl, ⟨rfl, ⟨rfl, ⟨rfl, trivial⟩⟩⟩⟩⟩⟩)
set_option maxRecDepth 20000 in
theorem vc_X12_next_ {G : GG} {l : Launch} {d : Nat} {post : Option AVal → AS → Prop} {σ : AS} {kk nn : Nat} {a1 : Int32} (h : post (some (xI ((a1 * 1103515245) + 12345))) σ) : AW G l M_X12_next_ d post σ kk nn 0 [some (xI a1)] [] := by
  refine aw_iload_n (i := 0) d_X12_next__0 rfl rfl ?_
  refine aw_ldcwI (x := 1103515245) d_X12_next__1 ct_RX12_361 ?_
  refine aw_imul d_X12_next__4 ?_
  refine aw_sipush (x := 12345) d_X12_next__5 (by decide) ?_
  refine aw_iadd d_X12_next__8 ?_
  exact aw_ret d_X12_next__9 rfl rfl h
set_option maxRecDepth 20000 in
theorem vc_X12_dresses {G : GG} {l : Launch} {d : Nat} {post : Option AVal → AS → Prop} {σ : AS} {kk nn : Nat} {a1 : Int32} (h : AW G l M_X12_dresses (d + 1) post σ kk nn 2 [some (xR (some (13, 0))), some (xI a1), some (xI 0), none, none] []) : AW G l M_X12_dresses (d + 1) post σ kk nn 0 [some (xR (some (13, 0))), some (xI a1), none, none, none] [] := by
  refine aw_iconst (x := 0) d_X12_dresses_0 (by decide) ?_
  refine aw_istore_n (i := 2) d_X12_dresses_1 rfl (by decide) ?_
  exact h
set_option maxRecDepth 20000 in
theorem vc_X12_dresses_2 {G : GG} {l : Launch} {d : Nat} {post : Option AVal → AS → Prop} {σ : AS} {kk nn : Nat} {v1 : Int32} {v2 : Int32} (hS : St σ) (h : (((v1 ≤ v2 → AW G l M_X12_dresses (d + 1) post σ kk nn 22 [some (xR (some (13, 0))), some (xI v1), some (xI 0), none, none] [])) ∧ ((¬ v1 ≤ v2 → (vp_in v2 5 ∧ AW G l M_X12_dresses (d + 1) post (sA σ 26 33 v2.toNatClampNeg 0) kk nn 2 [some (xR (some (13, 0))), some (xI v1), some (xI (v2 + 1)), none, none] []))))) : AW G l M_X12_dresses (d + 1) post σ kk nn 2 [some (xR (some (13, 0))), some (xI v1), some (xI v2), none, none] [] := by
  refine aw_iload_n (i := 2) d_X12_dresses_2 rfl rfl ?_
  refine aw_iload_n (i := 1) d_X12_dresses_3 rfl rfl ?_
  refine aw_icmp_ge (tgt := 20) d_X12_dresses_4 (by decide) (fun c => ?_) (fun c => ?_)
  · have h := h.1 c
    refine aw_iconst (x := 0) d_X12_dresses_20 (by decide) ?_
    refine aw_istore_n (i := 2) d_X12_dresses_21 rfl (by decide) ?_
    exact h
  · have h := h.2 c
    refine aw_aload_n (i := 0) d_X12_dresses_7 rfl rfl ?_
    refine aw_getRv fl_RX12_136 rfl (r := some (26, 33)) (St.get hS 13 62 0 26 33 (by decide)) d_X12_dresses_8 ?_
    refine aw_iload_n (i := 2) d_X12_dresses_11 rfl rfl ?_
    refine aw_iconst (x := 0) d_X12_dresses_12 (by decide) ?_
    obtain ⟨hq, h⟩ := h
    refine aw_iast d_X12_dresses_13 (by decide) (vp_of (St.len hS 26 33 5 (by decide)) hq) ?_
    refine aw_iinc (i := 2) (v := v2 + 1) d_X12_dresses_14 rfl rfl (by decide) ?_
    refine aw_goto (tgt := 2) d_X12_dresses_17 (by decide) ?_
    exact h
set_option maxRecDepth 20000 in
theorem vc_X12_dresses_22 {G : GG} {l : Launch} {d : Nat} {post : Option AVal → AS → Prop} {σ : AS} {kk nn : Nat} {v1 : Int32} {v2 : Int32} (hS : St σ) (h : ((((gI σ 13 1 0) ≤ v2 → AMet G l M_X12_nextComing d 0 0 [xR (some (13, 0))] σ (retI (fun x2 σ1 => AW G l M_X12_dresses (d + 1) post σ1 kk nn 48 [some (xR (some (13, 0))), some (xI v1), some (xI x2), none, none] [])))) ∧ ((¬ (gI σ 13 1 0) ≤ v2 → (vp_in v2 40 ∧ AW G l M_X12_dresses (d + 1) post (sA σ 21 4 v2.toNatClampNeg (vp_nar .boolean 0)) kk nn 22 [some (xR (some (13, 0))), some (xI v1), some (xI (v2 + 1)), none, none] []))))) : AW G l M_X12_dresses (d + 1) post σ kk nn 22 [some (xR (some (13, 0))), some (xI v1), some (xI v2), none, none] [] := by
  refine aw_iload_n (i := 2) d_X12_dresses_22 rfl rfl ?_
  refine aw_aload_n (i := 0) d_X12_dresses_23 rfl rfl ?_
  refine aw_getI fl_RX12_151 rfl d_X12_dresses_24 ?_
  refine aw_icmp_ge (tgt := 43) d_X12_dresses_27 (by decide) (fun c => ?_) (fun c => ?_)
  · have h := h.1 c
    refine aw_aload_n (i := 0) d_X12_dresses_43 rfl rfl ?_
    refine aw_callV0 (as := []) mw_X12_nextComing (by decide +kernel) ml_RX12_362 rfl d_X12_dresses_44 rfl (Nat.le_of_ble_eq_true rfl) (AMet.mono h (aw_toI (fun x2 σ1 h => ?_)))
    refine aw_istore_n (i := 2) d_X12_dresses_47 rfl (by decide) ?_
    exact h
  · have h := h.2 c
    refine aw_aload_n (i := 0) d_X12_dresses_30 rfl rfl ?_
    refine aw_getRv fl_RX12_139 rfl (r := some (21, 4)) (St.get hS 13 63 0 21 4 (by decide)) d_X12_dresses_31 ?_
    refine aw_iload_n (i := 2) d_X12_dresses_34 rfl rfl ?_
    refine aw_iconst (x := 0) d_X12_dresses_35 (by decide) ?_
    obtain ⟨hq, h⟩ := h
    refine aw_zast d_X12_dresses_36 (vp_of (St.len hS 21 4 40 (by decide)) hq) ?_
    refine aw_iinc (i := 2) (v := v2 + 1) d_X12_dresses_37 rfl rfl (by decide) ?_
    refine aw_goto (tgt := 22) d_X12_dresses_40 (by decide) ?_
    exact h
set_option maxRecDepth 20000 in
theorem vc_X12_dresses_48 {G : GG} {l : Launch} {d : Nat} {post : Option AVal → AS → Prop} {σ : AS} {kk nn : Nat} {v1 : Int32} {v2 : Int32} (h : (((v2 = (-1) → post none σ)) ∧ ((¬ v2 = (-1) → AW G l M_X12_dresses (d + 1) post σ kk nn 58 [some (xR (some (13, 0))), some (xI v1), some (xI v2), some (xI 0), some (xI 1)] [])))) : AW G l M_X12_dresses (d + 1) post σ kk nn 48 [some (xR (some (13, 0))), some (xI v1), some (xI v2), none, none] [] := by
  refine aw_iload_n (i := 2) d_X12_dresses_48 rfl rfl ?_
  refine aw_iconst (x := -1) d_X12_dresses_49 (by decide) ?_
  refine aw_icmp_eq (tgt := 144) d_X12_dresses_50 (by decide) (fun c => ?_) (fun c => ?_)
  · have h := h.1 c
    exact aw_vret d_X12_dresses_144 rfl h
  · have h := h.2 c
    refine aw_iconst (x := 0) d_X12_dresses_53 (by decide) ?_
    refine aw_istore_n (i := 3) d_X12_dresses_54 rfl (by decide) ?_
    refine aw_iconst (x := 1) d_X12_dresses_55 (by decide) ?_
    refine aw_istore (i := 4) d_X12_dresses_56 (by decide) ?_
    exact h
set_option maxRecDepth 20000 in
theorem vc_X12_dresses_58 {G : GG} {l : Launch} {d : Nat} {post : Option AVal → AS → Prop} {σ : AS} {kk nn : Nat} {v1 : Int32} {v2 : Int32} {v3 : Int32} {v4 : Int32} (hS : St σ) (h : (((v1 ≤ v4 → (vp_in v3 5 ∧ (vp_in v2 40 ∧ (vp_in v2 40 ∧ (vp_in v2 40 ∧ (vp_in v2 40 ∧ (vp_in v3 5 ∧ (vp_in v2 40 ∧ (AMet G l M_X12_nextComing d 0 0 [xR (some (13, 0))] (sA (sA (sA σ 26 35 v2.toNatClampNeg ((if (gA σ 26 33 v3.toNatClampNeg) < (gA σ 26 34 v2.toNatClampNeg) then (gA σ 26 34 v2.toNatClampNeg) else (gA σ 26 33 v3.toNatClampNeg)) + (gA σ 26 4 v2.toNatClampNeg))) 26 33 v3.toNatClampNeg (gA (sA σ 26 35 v2.toNatClampNeg ((if (gA σ 26 33 v3.toNatClampNeg) < (gA σ 26 34 v2.toNatClampNeg) then (gA σ 26 34 v2.toNatClampNeg) else (gA σ 26 33 v3.toNatClampNeg)) + (gA σ 26 4 v2.toNatClampNeg))) 26 35 v2.toNatClampNeg)) 21 4 v2.toNatClampNeg (vp_nar .boolean 1)) (retI (fun x4 σ3 => AW G l M_X12_dresses (d + 1) post σ3 kk nn 48 [some (xR (some (13, 0))), some (xI v1), some (xI x4), none, none] [])))))))))))) ∧ ((¬ v1 ≤ v4 → (vp_in v4 5 ∧ (vp_in v3 5 ∧ ((((gA σ 26 33 v3.toNatClampNeg) ≤ (gA σ 26 33 v4.toNatClampNeg) → AW G l M_X12_dresses (d + 1) post σ kk nn 58 [some (xR (some (13, 0))), some (xI v1), some (xI v2), some (xI v3), some (xI (v4 + 1))] [])) ∧ ((¬ (gA σ 26 33 v3.toNatClampNeg) ≤ (gA σ 26 33 v4.toNatClampNeg) → AW G l M_X12_dresses (d + 1) post σ kk nn 58 [some (xR (some (13, 0))), some (xI v1), some (xI v2), some (xI v4), some (xI (v4 + 1))] []))))))))) : AW G l M_X12_dresses (d + 1) post σ kk nn 58 [some (xR (some (13, 0))), some (xI v1), some (xI v2), some (xI v3), some (xI v4)] [] := by
  refine aw_iload (i := 4) d_X12_dresses_58 rfl ?_
  refine aw_iload_n (i := 1) d_X12_dresses_60 rfl rfl ?_
  refine aw_icmp_ge (tgt := 89) d_X12_dresses_61 (by decide) (fun c => ?_) (fun c => ?_)
  · have h := h.1 c
    refine aw_aload_n (i := 0) d_X12_dresses_89 rfl rfl ?_
    refine aw_getRv fl_RX12_145 rfl (r := some (26, 35)) (St.get hS 13 65 0 26 35 (by decide)) d_X12_dresses_90 ?_
    refine aw_iload_n (i := 2) d_X12_dresses_93 rfl rfl ?_
    refine aw_aload_n (i := 0) d_X12_dresses_94 rfl rfl ?_
    refine aw_getRv fl_RX12_136 rfl (r := some (26, 33)) (St.get hS 13 62 0 26 33 (by decide)) d_X12_dresses_95 ?_
    refine aw_iload_n (i := 3) d_X12_dresses_98 rfl rfl ?_
    obtain ⟨hq, h⟩ := h
    refine aw_iald d_X12_dresses_99 (by decide) (vp_of (St.len hS 26 33 5 (by decide)) hq) ?_
    refine aw_aload_n (i := 0) d_X12_dresses_100 rfl rfl ?_
    refine aw_getRv fl_RX12_142 rfl (r := some (26, 34)) (St.get hS 13 64 0 26 34 (by decide)) d_X12_dresses_101 ?_
    refine aw_iload_n (i := 2) d_X12_dresses_104 rfl rfl ?_
    obtain ⟨hq, h⟩ := h
    refine aw_iald d_X12_dresses_105 (by decide) (vp_of (St.len hS 26 34 40 (by decide)) hq) ?_
    refine aw_mmax ml_RX12_365 d_X12_dresses_106 (Nat.le_of_ble_eq_true rfl) ?_
    refine aw_aload_n (i := 0) d_X12_dresses_109 rfl rfl ?_
    refine aw_getRv fl_RX12_26 rfl (r := some (26, 4)) (St.get hS 13 7 0 26 4 (by decide)) d_X12_dresses_110 ?_
    refine aw_iload_n (i := 2) d_X12_dresses_113 rfl rfl ?_
    obtain ⟨hq, h⟩ := h
    refine aw_iald d_X12_dresses_114 (by decide) (vp_of (St.len hS 26 4 40 (by decide)) hq) ?_
    refine aw_iadd d_X12_dresses_115 ?_
    obtain ⟨hq, h⟩ := h
    refine aw_iast d_X12_dresses_116 (by decide) (vp_of (St.len hS 26 35 40 (by decide)) hq) ?_
    refine aw_aload_n (i := 0) d_X12_dresses_117 rfl rfl ?_
    refine aw_getRv fl_RX12_136 rfl (r := some (26, 33)) (St.get (St.sA hS) 13 62 0 26 33 (by decide)) d_X12_dresses_118 ?_
    refine aw_iload_n (i := 3) d_X12_dresses_121 rfl rfl ?_
    refine aw_aload_n (i := 0) d_X12_dresses_122 rfl rfl ?_
    refine aw_getRv fl_RX12_145 rfl (r := some (26, 35)) (St.get (St.sA hS) 13 65 0 26 35 (by decide)) d_X12_dresses_123 ?_
    refine aw_iload_n (i := 2) d_X12_dresses_126 rfl rfl ?_
    obtain ⟨hq, h⟩ := h
    refine aw_iald d_X12_dresses_127 (by decide) (vp_of (St.len (St.sA hS) 26 35 40 (by decide)) hq) ?_
    obtain ⟨hq, h⟩ := h
    refine aw_iast d_X12_dresses_128 (by decide) (vp_of (St.len (St.sA hS) 26 33 5 (by decide)) hq) ?_
    refine aw_aload_n (i := 0) d_X12_dresses_129 rfl rfl ?_
    refine aw_getRv fl_RX12_139 rfl (r := some (21, 4)) (St.get (St.sA (St.sA hS)) 13 63 0 21 4 (by decide)) d_X12_dresses_130 ?_
    refine aw_iload_n (i := 2) d_X12_dresses_133 rfl rfl ?_
    refine aw_iconst (x := 1) d_X12_dresses_134 (by decide) ?_
    obtain ⟨hq, h⟩ := h
    refine aw_zast d_X12_dresses_135 (vp_of (St.len (St.sA (St.sA hS)) 21 4 40 (by decide)) hq) ?_
    refine aw_aload_n (i := 0) d_X12_dresses_136 rfl rfl ?_
    refine aw_callV0 (as := []) mw_X12_nextComing (by decide +kernel) ml_RX12_362 rfl d_X12_dresses_137 rfl (Nat.le_of_ble_eq_true rfl) (AMet.mono h (aw_toI (fun x4 σ3 h => ?_)))
    refine aw_istore_n (i := 2) d_X12_dresses_140 rfl (by decide) ?_
    refine aw_goto (tgt := 48) d_X12_dresses_141 (by decide) ?_
    exact AW.weak h (by exact ⟨rfl, ⟨rfl, ⟨rfl, trivial⟩⟩⟩)
  · have h := h.2 c
    refine aw_aload_n (i := 0) d_X12_dresses_64 rfl rfl ?_
    refine aw_getRv fl_RX12_136 rfl (r := some (26, 33)) (St.get hS 13 62 0 26 33 (by decide)) d_X12_dresses_65 ?_
    refine aw_iload (i := 4) d_X12_dresses_68 rfl ?_
    obtain ⟨hq, h⟩ := h
    refine aw_iald d_X12_dresses_70 (by decide) (vp_of (St.len hS 26 33 5 (by decide)) hq) ?_
    refine aw_aload_n (i := 0) d_X12_dresses_71 rfl rfl ?_
    refine aw_getRv fl_RX12_136 rfl (r := some (26, 33)) (St.get hS 13 62 0 26 33 (by decide)) d_X12_dresses_72 ?_
    refine aw_iload_n (i := 3) d_X12_dresses_75 rfl rfl ?_
    obtain ⟨hq, h⟩ := h
    refine aw_iald d_X12_dresses_76 (by decide) (vp_of (St.len hS 26 33 5 (by decide)) hq) ?_
    refine aw_icmp_ge (tgt := 83) d_X12_dresses_77 (by decide) (fun c => ?_) (fun c => ?_)
    · have h := h.1 c
      refine aw_iinc (i := 4) (v := v4 + 1) d_X12_dresses_83 rfl rfl (by decide) ?_
      refine aw_goto (tgt := 58) d_X12_dresses_86 (by decide) ?_
      exact h
    · have h := h.2 c
      refine aw_iload (i := 4) d_X12_dresses_80 rfl ?_
      refine aw_istore_n (i := 3) d_X12_dresses_82 rfl (by decide) ?_
      refine aw_iinc (i := 4) (v := v4 + 1) d_X12_dresses_83 rfl rfl (by decide) ?_
      refine aw_goto (tgt := 58) d_X12_dresses_86 (by decide) ?_
      exact h
set_option maxRecDepth 20000 in
theorem vc_X12_nextComing {G : GG} {l : Launch} {d : Nat} {post : Option AVal → AS → Prop} {σ : AS} {kk nn : Nat}  (h : AW G l M_X12_nextComing d post σ kk nn 4 [some (xR (some (13, 0))), some (xI (-1)), some (xI 0)] []) : AW G l M_X12_nextComing d post σ kk nn 0 [some (xR (some (13, 0))), none, none] [] := by
  refine aw_iconst (x := -1) d_X12_nextComing_0 (by decide) ?_
  refine aw_istore_n (i := 1) d_X12_nextComing_1 rfl (by decide) ?_
  refine aw_iconst (x := 0) d_X12_nextComing_2 (by decide) ?_
  refine aw_istore_n (i := 2) d_X12_nextComing_3 rfl (by decide) ?_
  exact h
set_option maxRecDepth 20000 in
theorem vc_X12_nextComing_4 {G : GG} {l : Launch} {d : Nat} {post : Option AVal → AS → Prop} {σ : AS} {kk nn : Nat} {v1 : Int32} {v2 : Int32} (hS : St σ) (h : ((((gI σ 13 1 0) ≤ v2 → post (some (xI v1)) σ)) ∧ ((¬ (gI σ 13 1 0) ≤ v2 → (vp_in v2 40 ∧ ((((gA σ 26 7 v2.toNatClampNeg) = (-1) → AW G l M_X12_nextComing d post σ kk nn 4 [some (xR (some (13, 0))), some (xI v1), some (xI (v2 + 1))] [])) ∧ ((¬ (gA σ 26 7 v2.toNatClampNeg) = (-1) → (vp_in v2 40 ∧ (((¬ (gA σ 21 4 v2.toNatClampNeg) = 0 → AW G l M_X12_nextComing d post σ kk nn 4 [some (xR (some (13, 0))), some (xI v1), some (xI (v2 + 1))] [])) ∧ (((gA σ 21 4 v2.toNatClampNeg) = 0 → (((v1 = (-1) → AW G l M_X12_nextComing d post σ kk nn 4 [some (xR (some (13, 0))), some (xI v2), some (xI (v2 + 1))] [])) ∧ ((¬ v1 = (-1) → (vp_in v2 40 ∧ (vp_in v1 40 ∧ ((((gA σ 26 34 v1.toNatClampNeg) ≤ (gA σ 26 34 v2.toNatClampNeg) → AW G l M_X12_nextComing d post σ kk nn 4 [some (xR (some (13, 0))), some (xI v1), some (xI (v2 + 1))] [])) ∧ ((¬ (gA σ 26 34 v1.toNatClampNeg) ≤ (gA σ 26 34 v2.toNatClampNeg) → AW G l M_X12_nextComing d post σ kk nn 4 [some (xR (some (13, 0))), some (xI v2), some (xI (v2 + 1))] [])))))))))))))))))))) : AW G l M_X12_nextComing d post σ kk nn 4 [some (xR (some (13, 0))), some (xI v1), some (xI v2)] [] := by
  refine aw_iload_n (i := 2) d_X12_nextComing_4 rfl rfl ?_
  refine aw_aload_n (i := 0) d_X12_nextComing_5 rfl rfl ?_
  refine aw_getI fl_RX12_151 rfl d_X12_nextComing_6 ?_
  refine aw_icmp_ge (tgt := 59) d_X12_nextComing_9 (by decide) (fun c => ?_) (fun c => ?_)
  · have h := h.1 c
    refine aw_iload_n (i := 1) d_X12_nextComing_59 rfl rfl ?_
    exact aw_ret d_X12_nextComing_60 rfl rfl h
  · have h := h.2 c
    refine aw_aload_n (i := 0) d_X12_nextComing_12 rfl rfl ?_
    refine aw_getRv fl_RX12_39 rfl (r := some (26, 7)) (St.get hS 13 11 0 26 7 (by decide)) d_X12_nextComing_13 ?_
    refine aw_iload_n (i := 2) d_X12_nextComing_16 rfl rfl ?_
    obtain ⟨hq, h⟩ := h
    refine aw_iald d_X12_nextComing_17 (by decide) (vp_of (St.len hS 26 7 40 (by decide)) hq) ?_
    refine aw_iconst (x := -1) d_X12_nextComing_18 (by decide) ?_
    refine aw_icmp_eq (tgt := 53) d_X12_nextComing_19 (by decide) (fun c => ?_) (fun c => ?_)
    · have h := h.1 c
      refine aw_iinc (i := 2) (v := v2 + 1) d_X12_nextComing_53 rfl rfl (by decide) ?_
      refine aw_goto (tgt := 4) d_X12_nextComing_56 (by decide) ?_
      exact h
    · have h := h.2 c
      refine aw_aload_n (i := 0) d_X12_nextComing_22 rfl rfl ?_
      refine aw_getRv fl_RX12_139 rfl (r := some (21, 4)) (St.get hS 13 63 0 21 4 (by decide)) d_X12_nextComing_23 ?_
      refine aw_iload_n (i := 2) d_X12_nextComing_26 rfl rfl ?_
      obtain ⟨hq, h⟩ := h
      refine aw_zald d_X12_nextComing_27 (vp_of (St.len hS 21 4 40 (by decide)) hq) ?_
      refine aw_if_ne (tgt := 53) d_X12_nextComing_28 (by decide) (fun c => ?_) (fun c => ?_)
      · have h := h.1 c
        refine aw_iinc (i := 2) (v := v2 + 1) d_X12_nextComing_53 rfl rfl (by decide) ?_
        refine aw_goto (tgt := 4) d_X12_nextComing_56 (by decide) ?_
        exact h
      · have h := h.2 c
        refine aw_iload_n (i := 1) d_X12_nextComing_31 rfl rfl ?_
        refine aw_iconst (x := -1) d_X12_nextComing_32 (by decide) ?_
        refine aw_icmp_eq (tgt := 51) d_X12_nextComing_33 (by decide) (fun c => ?_) (fun c => ?_)
        · have h := h.1 c
          refine aw_iload_n (i := 2) d_X12_nextComing_51 rfl rfl ?_
          refine aw_istore_n (i := 1) d_X12_nextComing_52 rfl (by decide) ?_
          refine aw_iinc (i := 2) (v := v2 + 1) d_X12_nextComing_53 rfl rfl (by decide) ?_
          refine aw_goto (tgt := 4) d_X12_nextComing_56 (by decide) ?_
          exact h
        · have h := h.2 c
          refine aw_aload_n (i := 0) d_X12_nextComing_36 rfl rfl ?_
          refine aw_getRv fl_RX12_142 rfl (r := some (26, 34)) (St.get hS 13 64 0 26 34 (by decide)) d_X12_nextComing_37 ?_
          refine aw_iload_n (i := 2) d_X12_nextComing_40 rfl rfl ?_
          obtain ⟨hq, h⟩ := h
          refine aw_iald d_X12_nextComing_41 (by decide) (vp_of (St.len hS 26 34 40 (by decide)) hq) ?_
          refine aw_aload_n (i := 0) d_X12_nextComing_42 rfl rfl ?_
          refine aw_getRv fl_RX12_142 rfl (r := some (26, 34)) (St.get hS 13 64 0 26 34 (by decide)) d_X12_nextComing_43 ?_
          refine aw_iload_n (i := 1) d_X12_nextComing_46 rfl rfl ?_
          obtain ⟨hq, h⟩ := h
          refine aw_iald d_X12_nextComing_47 (by decide) (vp_of (St.len hS 26 34 40 (by decide)) hq) ?_
          refine aw_icmp_ge (tgt := 53) d_X12_nextComing_48 (by decide) (fun c => ?_) (fun c => ?_)
          · have h := h.1 c
            refine aw_iinc (i := 2) (v := v2 + 1) d_X12_nextComing_53 rfl rfl (by decide) ?_
            refine aw_goto (tgt := 4) d_X12_nextComing_56 (by decide) ?_
            exact h
          · have h := h.2 c
            refine aw_iload_n (i := 2) d_X12_nextComing_51 rfl rfl ?_
            refine aw_istore_n (i := 1) d_X12_nextComing_52 rfl (by decide) ?_
            refine aw_iinc (i := 2) (v := v2 + 1) d_X12_nextComing_53 rfl rfl (by decide) ?_
            refine aw_goto (tgt := 4) d_X12_nextComing_56 (by decide) ?_
            exact h
set_option maxRecDepth 20000 in
theorem vc_X12_step {G : GG} {l : Launch} {d : Nat} {post : Option AVal → AS → Prop} {σ : AS} {kk nn : Nat} {a1 : Int32} {a2 : Int32} (h : AW G l M_X12_step (d + 1) post (sI σ 13 0 0 0) kk nn 10 [some (xR (some (13, 0))), some (xI a1), some (xI a2), some (xI 0), some (xI 0), none, none, none, none] []) : AW G l M_X12_step (d + 1) post σ kk nn 0 [some (xR (some (13, 0))), some (xI a1), some (xI a2), none, none, none, none, none, none] [] := by
  refine aw_aload_n (i := 0) d_X12_step_0 rfl rfl ?_
  refine aw_iconst (x := 0) d_X12_step_1 (by decide) ?_
  refine aw_putI fl_RX12_1 (by decide) (fin_no (r := (RX12, TX12, 68)) rfl rfl) d_X12_step_2 rfl ⟨rfl, rfl⟩ ?_
  refine aw_iconst (x := 0) d_X12_step_5 (by decide) ?_
  refine aw_istore_n (i := 3) d_X12_step_6 rfl (by decide) ?_
  refine aw_iconst (x := 0) d_X12_step_7 (by decide) ?_
  refine aw_istore (i := 4) d_X12_step_8 (by decide) ?_
  exact h
set_option maxRecDepth 20000 in
theorem vc_X12_step_10 {G : GG} {l : Launch} {d : Nat} {post : Option AVal → AS → Prop} {σ : AS} {kk nn : Nat} {v1 : Int32} {v2 : Int32} {v3 : Int32} {v4 : Int32} (hS : St σ) (h : ((((gI σ 13 1 0) ≤ v4 → AMet G l M_X12_within d 0 0 [xI v1, xI 1, xI 5] σ (retI (fun x2 σ1 => (((x2 = 0 → post (some (xI (-1))) σ1)) ∧ ((¬ x2 = 0 → (((v3 = 0 → post (some (xI (-1))) σ1)) ∧ ((¬ v3 = 0 → (((¬ (gI σ1 13 2 0) = 60 → AW G l M_X12_step (d + 1) post σ1 kk nn 73 [some (xR (some (13, 0))), some (xI v1), some (xI v2), none, some (xI 0), none, none, none, none] [])) ∧ (((gI σ1 13 2 0) = 60 → post (some (xI (-1))) σ1))))))))))))) ∧ ((¬ (gI σ 13 1 0) ≤ v4 → (((¬ v3 = 0 → AW G l M_X12_step (d + 1) post σ kk nn 10 [some (xR (some (13, 0))), some (xI v1), some (xI v2), some (xI 1), some (xI (v4 + 1)), none, none, none, none] [])) ∧ ((v3 = 0 → (vp_in v4 40 ∧ ((((gA σ 26 7 v4.toNatClampNeg) = (-1) → AW G l M_X12_step (d + 1) post σ kk nn 10 [some (xR (some (13, 0))), some (xI v1), some (xI v2), some (xI 0), some (xI (v4 + 1)), none, none, none, none] [])) ∧ ((¬ (gA σ 26 7 v4.toNatClampNeg) = (-1) → AW G l M_X12_step (d + 1) post σ kk nn 10 [some (xR (some (13, 0))), some (xI v1), some (xI v2), some (xI 1), some (xI (v4 + 1)), none, none, none, none] []))))))))))) : AW G l M_X12_step (d + 1) post σ kk nn 10 [some (xR (some (13, 0))), some (xI v1), some (xI v2), some (xI v3), some (xI v4), none, none, none, none] [] := by
  refine aw_iload (i := 4) d_X12_step_10 rfl ?_
  refine aw_aload_n (i := 0) d_X12_step_12 rfl rfl ?_
  refine aw_getI fl_RX12_151 rfl d_X12_step_13 ?_
  refine aw_icmp_ge (tgt := 46) d_X12_step_16 (by decide) (fun c => ?_) (fun c => ?_)
  · have h := h.1 c
    refine aw_iload_n (i := 1) d_X12_step_46 rfl rfl ?_
    refine aw_iconst (x := 1) d_X12_step_47 (by decide) ?_
    refine aw_iconst (x := 5) d_X12_step_48 (by decide) ?_
    refine aw_callS0 (as := [xI v1, xI 1, xI 5]) mw_X12_within ml_RX12_154 rfl d_X12_step_49 rfl (Nat.le_of_ble_eq_true rfl) (AMet.mono h (aw_toI (fun x2 σ1 h => ?_)))
    refine aw_if_eq (tgt := 68) d_X12_step_52 (by decide) (fun c => ?_) (fun c => ?_)
    · have h := h.1 c
      refine aw_iconst (x := -1) d_X12_step_68 (by decide) ?_
      exact aw_ret d_X12_step_69 rfl rfl h
    · have h := h.2 c
      refine aw_iload_n (i := 3) d_X12_step_55 rfl rfl ?_
      refine aw_if_eq (tgt := 68) d_X12_step_56 (by decide) (fun c => ?_) (fun c => ?_)
      · have h := h.1 c
        refine aw_iconst (x := -1) d_X12_step_68 (by decide) ?_
        exact aw_ret d_X12_step_69 rfl rfl h
      · have h := h.2 c
        refine aw_aload_n (i := 0) d_X12_step_59 rfl rfl ?_
        refine aw_getI fl_RX12_304 rfl d_X12_step_60 ?_
        refine aw_bipush (x := 60) d_X12_step_63 (by decide) ?_
        refine aw_icmp_ne (tgt := 70) d_X12_step_65 (by decide) (fun c => ?_) (fun c => ?_)
        · have h := h.1 c
          refine aw_iconst (x := 0) d_X12_step_70 (by decide) ?_
          refine aw_istore (i := 4) d_X12_step_71 (by decide) ?_
          exact AW.weak h (by exact ⟨rfl, ⟨rfl, ⟨rfl, ⟨rfl, trivial⟩⟩⟩⟩)
        · have h := h.2 c
          refine aw_iconst (x := -1) d_X12_step_68 (by decide) ?_
          exact aw_ret d_X12_step_69 rfl rfl h
  · have h := h.2 c
    refine aw_iload_n (i := 3) d_X12_step_19 rfl rfl ?_
    refine aw_if_ne (tgt := 34) d_X12_step_20 (by decide) (fun c => ?_) (fun c => ?_)
    · have h := h.1 c
      refine aw_iconst (x := 1) d_X12_step_34 (by decide) ?_
      refine aw_goto (tgt := 39) d_X12_step_35 (by decide) ?_
      refine aw_istore_n (i := 3) d_X12_step_39 rfl (by decide) ?_
      refine aw_iinc (i := 4) (v := v4 + 1) d_X12_step_40 rfl rfl (by decide) ?_
      refine aw_goto (tgt := 10) d_X12_step_43 (by decide) ?_
      exact h
    · have h := h.2 c
      refine aw_aload_n (i := 0) d_X12_step_23 rfl rfl ?_
      refine aw_getRv fl_RX12_39 rfl (r := some (26, 7)) (St.get hS 13 11 0 26 7 (by decide)) d_X12_step_24 ?_
      refine aw_iload (i := 4) d_X12_step_27 rfl ?_
      obtain ⟨hq, h⟩ := h
      refine aw_iald d_X12_step_29 (by decide) (vp_of (St.len hS 26 7 40 (by decide)) hq) ?_
      refine aw_iconst (x := -1) d_X12_step_30 (by decide) ?_
      refine aw_icmp_eq (tgt := 38) d_X12_step_31 (by decide) (fun c => ?_) (fun c => ?_)
      · have h := h.1 c
        refine aw_iconst (x := 0) d_X12_step_38 (by decide) ?_
        refine aw_istore_n (i := 3) d_X12_step_39 rfl (by decide) ?_
        refine aw_iinc (i := 4) (v := v4 + 1) d_X12_step_40 rfl rfl (by decide) ?_
        refine aw_goto (tgt := 10) d_X12_step_43 (by decide) ?_
        exact h
      · have h := h.2 c
        refine aw_iconst (x := 1) d_X12_step_34 (by decide) ?_
        refine aw_goto (tgt := 39) d_X12_step_35 (by decide) ?_
        refine aw_istore_n (i := 3) d_X12_step_39 rfl (by decide) ?_
        refine aw_iinc (i := 4) (v := v4 + 1) d_X12_step_40 rfl rfl (by decide) ?_
        refine aw_goto (tgt := 10) d_X12_step_43 (by decide) ?_
        exact h
set_option maxRecDepth 20000 in
theorem vc_X12_step_73 {G : GG} {l : Launch} {d : Nat} {post : Option AVal → AS → Prop} {σ : AS} {kk nn : Nat} {v1 : Int32} {v2 : Int32} {v4 : Int32} (hS : St σ) (h : ((((gI σ 13 1 0) ≤ v4 → AMet G l M_X12_dresses d 0 0 [xR (some (13, 0)), xI v1] σ (retV (fun σ3 => AW G l M_X12_step (d + 1) post σ3 kk nn 154 [some (xR (some (13, 0))), none, none, none, some (xI 0), some (xI 0), none, none, none] [])))) ∧ ((¬ (gI σ 13 1 0) ≤ v4 → (vp_in v4 40 ∧ ((((gA σ 26 7 v4.toNatClampNeg) = (-1) → AW G l M_X12_step (d + 1) post σ kk nn 73 [some (xR (some (13, 0))), some (xI v1), some (xI v2), none, some (xI (v4 + 1)), none, none, none, none] [])) ∧ ((¬ (gA σ 26 7 v4.toNatClampNeg) = (-1) → (vp_in v4 40 ∧ (vp_in (gA σ 26 7 v4.toNatClampNeg) 6 ∧ (AMet G l M_X12_next_ d 0 0 [xI ((v2 + (31 * v4)) + (7 * (gI σ 13 2 0)))] σ (retI (fun x5 σ4 => (St σ4 ∧ (vp_in v4 40 ∧ AW G l M_X12_step (d + 1) post (sA σ4 26 34 v4.toNatClampNeg ((gA σ 26 11 (gA σ 26 7 v4.toNatClampNeg).toNatClampNeg) + (((x5.toUInt32 >>> ((16 : Int32).toUInt32 &&& Int32.toUInt32 31)).toInt32) - ((x5.toUInt32 >>> ((16 : Int32).toUInt32 &&& Int32.toUInt32 31)).toInt32) / 20 * 20))) kk nn 73 [some (xR (some (13, 0))), some (xI v1), some (xI v2), none, some (xI (v4 + 1)), none, none, none, none] []))))))))))))))) : AW G l M_X12_step (d + 1) post σ kk nn 73 [some (xR (some (13, 0))), some (xI v1), some (xI v2), none, some (xI v4), none, none, none, none] [] := by
  refine aw_iload (i := 4) d_X12_step_73 rfl ?_
  refine aw_aload_n (i := 0) d_X12_step_75 rfl rfl ?_
  refine aw_getI fl_RX12_151 rfl d_X12_step_76 ?_
  refine aw_icmp_ge (tgt := 143) d_X12_step_79 (by decide) (fun c => ?_) (fun c => ?_)
  · have h := h.1 c
    refine aw_aload_n (i := 0) d_X12_step_143 rfl rfl ?_
    refine aw_iload_n (i := 1) d_X12_step_144 rfl rfl ?_
    refine aw_callV0 (as := [xI v1]) mw_X12_dresses (by decide +kernel) ml_RX12_372 rfl d_X12_step_145 rfl (Nat.le_of_ble_eq_true rfl) (AMet.mono h (aw_toV (fun σ3 h => ?_)))
    refine aw_iconst (x := 0) d_X12_step_148 (by decide) ?_
    refine aw_istore (i := 4) d_X12_step_149 (by decide) ?_
    refine aw_iconst (x := 0) d_X12_step_151 (by decide) ?_
    refine aw_istore (i := 5) d_X12_step_152 (by decide) ?_
    exact AW.weak h (by exact ⟨rfl, ⟨rfl, ⟨rfl, trivial⟩⟩⟩)
  · have h := h.2 c
    refine aw_aload_n (i := 0) d_X12_step_82 rfl rfl ?_
    refine aw_getRv fl_RX12_39 rfl (r := some (26, 7)) (St.get hS 13 11 0 26 7 (by decide)) d_X12_step_83 ?_
    refine aw_iload (i := 4) d_X12_step_86 rfl ?_
    obtain ⟨hq, h⟩ := h
    refine aw_iald d_X12_step_88 (by decide) (vp_of (St.len hS 26 7 40 (by decide)) hq) ?_
    refine aw_iconst (x := -1) d_X12_step_89 (by decide) ?_
    refine aw_icmp_eq (tgt := 137) d_X12_step_90 (by decide) (fun c => ?_) (fun c => ?_)
    · have h := h.1 c
      refine aw_iinc (i := 4) (v := v4 + 1) d_X12_step_137 rfl rfl (by decide) ?_
      refine aw_goto (tgt := 73) d_X12_step_140 (by decide) ?_
      exact h
    · have h := h.2 c
      refine aw_aload_n (i := 0) d_X12_step_93 rfl rfl ?_
      refine aw_getRv fl_RX12_142 rfl (r := some (26, 34)) (St.get hS 13 64 0 26 34 (by decide)) d_X12_step_94 ?_
      refine aw_iload (i := 4) d_X12_step_97 rfl ?_
      refine aw_aload_n (i := 0) d_X12_step_99 rfl rfl ?_
      refine aw_getRv fl_RX12_61 rfl (r := some (26, 11)) (St.get hS 13 33 0 26 11 (by decide)) d_X12_step_100 ?_
      refine aw_aload_n (i := 0) d_X12_step_103 rfl rfl ?_
      refine aw_getRv fl_RX12_39 rfl (r := some (26, 7)) (St.get hS 13 11 0 26 7 (by decide)) d_X12_step_104 ?_
      refine aw_iload (i := 4) d_X12_step_107 rfl ?_
      obtain ⟨hq, h⟩ := h
      refine aw_iald d_X12_step_109 (by decide) (vp_of (St.len hS 26 7 40 (by decide)) hq) ?_
      obtain ⟨hq, h⟩ := h
      refine aw_iald d_X12_step_110 (by decide) (vp_of (St.len hS 26 11 6 (by decide)) hq) ?_
      refine aw_iload_n (i := 2) d_X12_step_111 rfl rfl ?_
      refine aw_bipush (x := 31) d_X12_step_112 (by decide) ?_
      refine aw_iload (i := 4) d_X12_step_114 rfl ?_
      refine aw_imul d_X12_step_116 ?_
      refine aw_iadd d_X12_step_117 ?_
      refine aw_bipush (x := 7) d_X12_step_118 (by decide) ?_
      refine aw_aload_n (i := 0) d_X12_step_120 rfl rfl ?_
      refine aw_getI fl_RX12_304 rfl d_X12_step_121 ?_
      refine aw_imul d_X12_step_124 ?_
      refine aw_iadd d_X12_step_125 ?_
      refine aw_callS0 (as := [xI ((v2 + (31 * v4)) + (7 * (gI σ 13 2 0)))]) mw_X12_next_ ml_RX12_370 rfl d_X12_step_126 rfl (Nat.le_of_ble_eq_true rfl) (AMet.mono h (aw_toI (fun x5 σ4 h => ?_)))
      obtain ⟨hS4, h⟩ := h
      refine aw_bipush (x := 16) d_X12_step_129 (by decide) ?_
      refine aw_iushr d_X12_step_131 rfl ?_
      refine aw_bipush (x := 20) d_X12_step_132 (by decide) ?_
      refine aw_irem d_X12_step_134 (by decide) ?_
      refine aw_iadd d_X12_step_135 ?_
      obtain ⟨hq, h⟩ := h
      refine aw_iast d_X12_step_136 (by decide) (vp_of (St.len hS4 26 34 40 (by decide)) hq) ?_
      refine aw_iinc (i := 4) (v := v4 + 1) d_X12_step_137 rfl rfl (by decide) ?_
      refine aw_goto (tgt := 73) d_X12_step_140 (by decide) ?_
      exact h
set_option maxRecDepth 20000 in
theorem vc_X12_step_154 {G : GG} {l : Launch} {d : Nat} {post : Option AVal → AS → Prop} {σ : AS} {kk nn : Nat} {v4 : Int32} {v5 : Int32} (hS : St σ) (h : ((((gI σ 13 1 0) ≤ v5 → AW G l M_X12_step (d + 1) post σ kk nn 429 [some (xR (some (13, 0))), none, none, none, some (xI v4), some (xI (gI σ 13 1 0)), none, none, none] [])) ∧ ((¬ (gI σ 13 1 0) ≤ v5 → (vp_in ((40 * (gI σ 13 2 0)) + v5) 2400 ∧ (vp_in v5 40 ∧ (((¬ (gA (sA σ 26 27 ((40 * (gI σ 13 2 0)) + v5).toNatClampNeg (-1)) 26 7 v5.toNatClampNeg) = (-1) → AW G l M_X12_step (d + 1) post (sA σ 26 27 ((40 * (gI σ 13 2 0)) + v5).toNatClampNeg (-1)) kk nn 203 [some (xR (some (13, 0))), none, none, none, some (xI v4), some (xI v5), some (xI ((40 * (gI σ 13 2 0)) + v5)), some (xI 0), some (xI 0)] [])) ∧ (((gA (sA σ 26 27 ((40 * (gI σ 13 2 0)) + v5).toNatClampNeg (-1)) 26 7 v5.toNatClampNeg) = (-1) → AW G l M_X12_step (d + 1) post (sA σ 26 27 ((40 * (gI σ 13 2 0)) + v5).toNatClampNeg (-1)) kk nn 154 [some (xR (some (13, 0))), none, none, none, some (xI v4), some (xI (v5 + 1)), none, none, none] []))))))))) : AW G l M_X12_step (d + 1) post σ kk nn 154 [some (xR (some (13, 0))), none, none, none, some (xI v4), some (xI v5), none, none, none] [] := by
  refine aw_iload (i := 5) d_X12_step_154 rfl ?_
  refine aw_aload_n (i := 0) d_X12_step_156 rfl rfl ?_
  refine aw_getI fl_RX12_151 rfl d_X12_step_157 ?_
  refine aw_icmp_ge (tgt := 423) d_X12_step_160 (by decide) (fun c => ?_) (fun c => ?_)
  · have h := h.1 c
    refine aw_aload_n (i := 0) d_X12_step_423 rfl rfl ?_
    refine aw_getI fl_RX12_151 rfl d_X12_step_424 ?_
    refine aw_istore (i := 5) d_X12_step_427 (by decide) ?_
    exact h
  · have h := h.2 c
    refine aw_bipush (x := 40) d_X12_step_163 (by decide) ?_
    refine aw_aload_n (i := 0) d_X12_step_165 rfl rfl ?_
    refine aw_getI fl_RX12_304 rfl d_X12_step_166 ?_
    refine aw_imul d_X12_step_169 ?_
    refine aw_iload (i := 5) d_X12_step_170 rfl ?_
    refine aw_iadd d_X12_step_172 ?_
    refine aw_istore (i := 6) d_X12_step_173 (by decide) ?_
    refine aw_aload_n (i := 0) d_X12_step_175 rfl rfl ?_
    refine aw_getRv fl_RX12_118 rfl (r := some (26, 27)) (St.get hS 13 56 0 26 27 (by decide)) d_X12_step_176 ?_
    refine aw_iload (i := 6) d_X12_step_179 rfl ?_
    refine aw_iconst (x := -1) d_X12_step_181 (by decide) ?_
    obtain ⟨hq, h⟩ := h
    refine aw_iast d_X12_step_182 (by decide) (vp_of (St.len hS 26 27 2400 (by decide)) hq) ?_
    refine aw_aload_n (i := 0) d_X12_step_183 rfl rfl ?_
    refine aw_getRv fl_RX12_39 rfl (r := some (26, 7)) (St.get (St.sA hS) 13 11 0 26 7 (by decide)) d_X12_step_184 ?_
    refine aw_iload (i := 5) d_X12_step_187 rfl ?_
    obtain ⟨hq, h⟩ := h
    refine aw_iald d_X12_step_189 (by decide) (vp_of (St.len (St.sA hS) 26 7 40 (by decide)) hq) ?_
    refine aw_iconst (x := -1) d_X12_step_190 (by decide) ?_
    refine aw_icmp_ne (tgt := 197) d_X12_step_191 (by decide) (fun c => ?_) (fun c => ?_)
    · have h := h.1 c
      refine aw_iconst (x := 0) d_X12_step_197 (by decide) ?_
      refine aw_istore (i := 7) d_X12_step_198 (by decide) ?_
      refine aw_iconst (x := 0) d_X12_step_200 (by decide) ?_
      refine aw_istore (i := 8) d_X12_step_201 (by decide) ?_
      exact h
    · have h := h.2 c
      refine aw_goto (tgt := 417) d_X12_step_194 (by decide) ?_
      refine aw_iinc (i := 5) (v := v5 + 1) d_X12_step_417 rfl rfl (by decide) ?_
      refine aw_goto (tgt := 154) d_X12_step_420 (by decide) ?_
      exact AW.weak h (by exact ⟨rfl, ⟨rfl, ⟨rfl, trivial⟩⟩⟩)
set_option maxRecDepth 20000 in
theorem vc_X12_step_203 {G : GG} {l : Launch} {d : Nat} {post : Option AVal → AS → Prop} {σ : AS} {kk nn : Nat} {v4 : Int32} {v5 : Int32} {v6 : Int32} {v7 : Int32} {v8 : Int32} (hS : St σ) (h : ((((gI σ 13 1 0) ≤ v8 → (vp_in v5 40 ∧ (vp_in (gA σ 26 7 v5.toNatClampNeg) 6 ∧ (vp_in v6 2400 ∧ (vp_in v5 40 ∧ (vp_in v6 2400 ∧ (vp_in v5 40 ∧ (vp_in v6 2400 ∧ (vp_in v6 2400 ∧ (vp_in v5 40 ∧ (vp_in (gA (sA (sA (sA (sA σ 26 27 v6.toNatClampNeg (gA σ 26 10 (gA σ 26 7 v5.toNatClampNeg).toNatClampNeg)) 26 28 v6.toNatClampNeg (gA (sA σ 26 27 v6.toNatClampNeg (gA σ 26 10 (gA σ 26 7 v5.toNatClampNeg).toNatClampNeg)) 26 34 v5.toNatClampNeg)) 26 29 v6.toNatClampNeg (gA (sA (sA σ 26 27 v6.toNatClampNeg (gA σ 26 10 (gA σ 26 7 v5.toNatClampNeg).toNatClampNeg)) 26 28 v6.toNatClampNeg (gA (sA σ 26 27 v6.toNatClampNeg (gA σ 26 10 (gA σ 26 7 v5.toNatClampNeg).toNatClampNeg)) 26 34 v5.toNatClampNeg)) 26 35 v5.toNatClampNeg)) 26 30 v6.toNatClampNeg v7) 26 7 v5.toNatClampNeg) 6 ∧ (vp_in v6 2400 ∧ (vp_in v6 2400 ∧ (vp_in v6 2400 ∧ (vp_in v5 40 ∧ (vp_in v5 40 ∧ (vp_in v6 2400 ∧ (vp_in v5 40 ∧ (vp_in v6 2400 ∧ (AMet G l M_X12_fact d 0 0 [xR (some (13, 0)), xI v5, xI (gA (sA (sA (sI (sA (sA (sA (sA (sA (sA σ 26 27 v6.toNatClampNeg (gA σ 26 10 (gA σ 26 7 v5.toNatClampNeg).toNatClampNeg)) 26 28 v6.toNatClampNeg (gA (sA σ 26 27 v6.toNatClampNeg (gA σ 26 10 (gA σ 26 7 v5.toNatClampNeg).toNatClampNeg)) 26 34 v5.toNatClampNeg)) 26 29 v6.toNatClampNeg (gA (sA (sA σ 26 27 v6.toNatClampNeg (gA σ 26 10 (gA σ 26 7 v5.toNatClampNeg).toNatClampNeg)) 26 28 v6.toNatClampNeg (gA (sA σ 26 27 v6.toNatClampNeg (gA σ 26 10 (gA σ 26 7 v5.toNatClampNeg).toNatClampNeg)) 26 34 v5.toNatClampNeg)) 26 35 v5.toNatClampNeg)) 26 30 v6.toNatClampNeg v7) 26 31 v6.toNatClampNeg (v7 + (gA (sA (sA (sA (sA σ 26 27 v6.toNatClampNeg (gA σ 26 10 (gA σ 26 7 v5.toNatClampNeg).toNatClampNeg)) 26 28 v6.toNatClampNeg (gA (sA σ 26 27 v6.toNatClampNeg (gA σ 26 10 (gA σ 26 7 v5.toNatClampNeg).toNatClampNeg)) 26 34 v5.toNatClampNeg)) 26 29 v6.toNatClampNeg (gA (sA (sA σ 26 27 v6.toNatClampNeg (gA σ 26 10 (gA σ 26 7 v5.toNatClampNeg).toNatClampNeg)) 26 28 v6.toNatClampNeg (gA (sA σ 26 27 v6.toNatClampNeg (gA σ 26 10 (gA σ 26 7 v5.toNatClampNeg).toNatClampNeg)) 26 34 v5.toNatClampNeg)) 26 35 v5.toNatClampNeg)) 26 30 v6.toNatClampNeg v7) 26 12 (gA (sA (sA (sA (sA σ 26 27 v6.toNatClampNeg (gA σ 26 10 (gA σ 26 7 v5.toNatClampNeg).toNatClampNeg)) 26 28 v6.toNatClampNeg (gA (sA σ 26 27 v6.toNatClampNeg (gA σ 26 10 (gA σ 26 7 v5.toNatClampNeg).toNatClampNeg)) 26 34 v5.toNatClampNeg)) 26 29 v6.toNatClampNeg (gA (sA (sA σ 26 27 v6.toNatClampNeg (gA σ 26 10 (gA σ 26 7 v5.toNatClampNeg).toNatClampNeg)) 26 28 v6.toNatClampNeg (gA (sA σ 26 27 v6.toNatClampNeg (gA σ 26 10 (gA σ 26 7 v5.toNatClampNeg).toNatClampNeg)) 26 34 v5.toNatClampNeg)) 26 35 v5.toNatClampNeg)) 26 30 v6.toNatClampNeg v7) 26 7 v5.toNatClampNeg).toNatClampNeg))) 26 32 v6.toNatClampNeg ((gI σ 13 49 0) - 1)) 13 55 0 ((gI σ 13 55 0) + 1)) 26 5 v5.toNatClampNeg ((gA (sI (sA (sA (sA (sA (sA (sA σ 26 27 v6.toNatClampNeg (gA σ 26 10 (gA σ 26 7 v5.toNatClampNeg).toNatClampNeg)) 26 28 v6.toNatClampNeg (gA (sA σ 26 27 v6.toNatClampNeg (gA σ 26 10 (gA σ 26 7 v5.toNatClampNeg).toNatClampNeg)) 26 34 v5.toNatClampNeg)) 26 29 v6.toNatClampNeg (gA (sA (sA σ 26 27 v6.toNatClampNeg (gA σ 26 10 (gA σ 26 7 v5.toNatClampNeg).toNatClampNeg)) 26 28 v6.toNatClampNeg (gA (sA σ 26 27 v6.toNatClampNeg (gA σ 26 10 (gA σ 26 7 v5.toNatClampNeg).toNatClampNeg)) 26 34 v5.toNatClampNeg)) 26 35 v5.toNatClampNeg)) 26 30 v6.toNatClampNeg v7) 26 31 v6.toNatClampNeg (v7 + (gA (sA (sA (sA (sA σ 26 27 v6.toNatClampNeg (gA σ 26 10 (gA σ 26 7 v5.toNatClampNeg).toNatClampNeg)) 26 28 v6.toNatClampNeg (gA (sA σ 26 27 v6.toNatClampNeg (gA σ 26 10 (gA σ 26 7 v5.toNatClampNeg).toNatClampNeg)) 26 34 v5.toNatClampNeg)) 26 29 v6.toNatClampNeg (gA (sA (sA σ 26 27 v6.toNatClampNeg (gA σ 26 10 (gA σ 26 7 v5.toNatClampNeg).toNatClampNeg)) 26 28 v6.toNatClampNeg (gA (sA σ 26 27 v6.toNatClampNeg (gA σ 26 10 (gA σ 26 7 v5.toNatClampNeg).toNatClampNeg)) 26 34 v5.toNatClampNeg)) 26 35 v5.toNatClampNeg)) 26 30 v6.toNatClampNeg v7) 26 12 (gA (sA (sA (sA (sA σ 26 27 v6.toNatClampNeg (gA σ 26 10 (gA σ 26 7 v5.toNatClampNeg).toNatClampNeg)) 26 28 v6.toNatClampNeg (gA (sA σ 26 27 v6.toNatClampNeg (gA σ 26 10 (gA σ 26 7 v5.toNatClampNeg).toNatClampNeg)) 26 34 v5.toNatClampNeg)) 26 29 v6.toNatClampNeg (gA (sA (sA σ 26 27 v6.toNatClampNeg (gA σ 26 10 (gA σ 26 7 v5.toNatClampNeg).toNatClampNeg)) 26 28 v6.toNatClampNeg (gA (sA σ 26 27 v6.toNatClampNeg (gA σ 26 10 (gA σ 26 7 v5.toNatClampNeg).toNatClampNeg)) 26 34 v5.toNatClampNeg)) 26 35 v5.toNatClampNeg)) 26 30 v6.toNatClampNeg v7) 26 7 v5.toNatClampNeg).toNatClampNeg))) 26 32 v6.toNatClampNeg ((gI σ 13 49 0) - 1)) 13 55 0 ((gI σ 13 55 0) + 1)) 26 5 v5.toNatClampNeg) + 1)) 26 6 v5.toNatClampNeg (((1440 * (gI σ 13 2 0)) + (gA (sA (sI (sA (sA (sA (sA (sA (sA σ 26 27 v6.toNatClampNeg (gA σ 26 10 (gA σ 26 7 v5.toNatClampNeg).toNatClampNeg)) 26 28 v6.toNatClampNeg (gA (sA σ 26 27 v6.toNatClampNeg (gA σ 26 10 (gA σ 26 7 v5.toNatClampNeg).toNatClampNeg)) 26 34 v5.toNatClampNeg)) 26 29 v6.toNatClampNeg (gA (sA (sA σ 26 27 v6.toNatClampNeg (gA σ 26 10 (gA σ 26 7 v5.toNatClampNeg).toNatClampNeg)) 26 28 v6.toNatClampNeg (gA (sA σ 26 27 v6.toNatClampNeg (gA σ 26 10 (gA σ 26 7 v5.toNatClampNeg).toNatClampNeg)) 26 34 v5.toNatClampNeg)) 26 35 v5.toNatClampNeg)) 26 30 v6.toNatClampNeg v7) 26 31 v6.toNatClampNeg (v7 + (gA (sA (sA (sA (sA σ 26 27 v6.toNatClampNeg (gA σ 26 10 (gA σ 26 7 v5.toNatClampNeg).toNatClampNeg)) 26 28 v6.toNatClampNeg (gA (sA σ 26 27 v6.toNatClampNeg (gA σ 26 10 (gA σ 26 7 v5.toNatClampNeg).toNatClampNeg)) 26 34 v5.toNatClampNeg)) 26 29 v6.toNatClampNeg (gA (sA (sA σ 26 27 v6.toNatClampNeg (gA σ 26 10 (gA σ 26 7 v5.toNatClampNeg).toNatClampNeg)) 26 28 v6.toNatClampNeg (gA (sA σ 26 27 v6.toNatClampNeg (gA σ 26 10 (gA σ 26 7 v5.toNatClampNeg).toNatClampNeg)) 26 34 v5.toNatClampNeg)) 26 35 v5.toNatClampNeg)) 26 30 v6.toNatClampNeg v7) 26 12 (gA (sA (sA (sA (sA σ 26 27 v6.toNatClampNeg (gA σ 26 10 (gA σ 26 7 v5.toNatClampNeg).toNatClampNeg)) 26 28 v6.toNatClampNeg (gA (sA σ 26 27 v6.toNatClampNeg (gA σ 26 10 (gA σ 26 7 v5.toNatClampNeg).toNatClampNeg)) 26 34 v5.toNatClampNeg)) 26 29 v6.toNatClampNeg (gA (sA (sA σ 26 27 v6.toNatClampNeg (gA σ 26 10 (gA σ 26 7 v5.toNatClampNeg).toNatClampNeg)) 26 28 v6.toNatClampNeg (gA (sA σ 26 27 v6.toNatClampNeg (gA σ 26 10 (gA σ 26 7 v5.toNatClampNeg).toNatClampNeg)) 26 34 v5.toNatClampNeg)) 26 35 v5.toNatClampNeg)) 26 30 v6.toNatClampNeg v7) 26 7 v5.toNatClampNeg).toNatClampNeg))) 26 32 v6.toNatClampNeg ((gI σ 13 49 0) - 1)) 13 55 0 ((gI σ 13 55 0) + 1)) 26 5 v5.toNatClampNeg ((gA (sI (sA (sA (sA (sA (sA (sA σ 26 27 v6.toNatClampNeg (gA σ 26 10 (gA σ 26 7 v5.toNatClampNeg).toNatClampNeg)) 26 28 v6.toNatClampNeg (gA (sA σ 26 27 v6.toNatClampNeg (gA σ 26 10 (gA σ 26 7 v5.toNatClampNeg).toNatClampNeg)) 26 34 v5.toNatClampNeg)) 26 29 v6.toNatClampNeg (gA (sA (sA σ 26 27 v6.toNatClampNeg (gA σ 26 10 (gA σ 26 7 v5.toNatClampNeg).toNatClampNeg)) 26 28 v6.toNatClampNeg (gA (sA σ 26 27 v6.toNatClampNeg (gA σ 26 10 (gA σ 26 7 v5.toNatClampNeg).toNatClampNeg)) 26 34 v5.toNatClampNeg)) 26 35 v5.toNatClampNeg)) 26 30 v6.toNatClampNeg v7) 26 31 v6.toNatClampNeg (v7 + (gA (sA (sA (sA (sA σ 26 27 v6.toNatClampNeg (gA σ 26 10 (gA σ 26 7 v5.toNatClampNeg).toNatClampNeg)) 26 28 v6.toNatClampNeg (gA (sA σ 26 27 v6.toNatClampNeg (gA σ 26 10 (gA σ 26 7 v5.toNatClampNeg).toNatClampNeg)) 26 34 v5.toNatClampNeg)) 26 29 v6.toNatClampNeg (gA (sA (sA σ 26 27 v6.toNatClampNeg (gA σ 26 10 (gA σ 26 7 v5.toNatClampNeg).toNatClampNeg)) 26 28 v6.toNatClampNeg (gA (sA σ 26 27 v6.toNatClampNeg (gA σ 26 10 (gA σ 26 7 v5.toNatClampNeg).toNatClampNeg)) 26 34 v5.toNatClampNeg)) 26 35 v5.toNatClampNeg)) 26 30 v6.toNatClampNeg v7) 26 12 (gA (sA (sA (sA (sA σ 26 27 v6.toNatClampNeg (gA σ 26 10 (gA σ 26 7 v5.toNatClampNeg).toNatClampNeg)) 26 28 v6.toNatClampNeg (gA (sA σ 26 27 v6.toNatClampNeg (gA σ 26 10 (gA σ 26 7 v5.toNatClampNeg).toNatClampNeg)) 26 34 v5.toNatClampNeg)) 26 29 v6.toNatClampNeg (gA (sA (sA σ 26 27 v6.toNatClampNeg (gA σ 26 10 (gA σ 26 7 v5.toNatClampNeg).toNatClampNeg)) 26 28 v6.toNatClampNeg (gA (sA σ 26 27 v6.toNatClampNeg (gA σ 26 10 (gA σ 26 7 v5.toNatClampNeg).toNatClampNeg)) 26 34 v5.toNatClampNeg)) 26 35 v5.toNatClampNeg)) 26 30 v6.toNatClampNeg v7) 26 7 v5.toNatClampNeg).toNatClampNeg))) 26 32 v6.toNatClampNeg ((gI σ 13 49 0) - 1)) 13 55 0 ((gI σ 13 55 0) + 1)) 26 5 v5.toNatClampNeg) + 1)) 26 31 v6.toNatClampNeg)) + 660)) 26 27 v6.toNatClampNeg)] (sA (sA (sI (sA (sA (sA (sA (sA (sA σ 26 27 v6.toNatClampNeg (gA σ 26 10 (gA σ 26 7 v5.toNatClampNeg).toNatClampNeg)) 26 28 v6.toNatClampNeg (gA (sA σ 26 27 v6.toNatClampNeg (gA σ 26 10 (gA σ 26 7 v5.toNatClampNeg).toNatClampNeg)) 26 34 v5.toNatClampNeg)) 26 29 v6.toNatClampNeg (gA (sA (sA σ 26 27 v6.toNatClampNeg (gA σ 26 10 (gA σ 26 7 v5.toNatClampNeg).toNatClampNeg)) 26 28 v6.toNatClampNeg (gA (sA σ 26 27 v6.toNatClampNeg (gA σ 26 10 (gA σ 26 7 v5.toNatClampNeg).toNatClampNeg)) 26 34 v5.toNatClampNeg)) 26 35 v5.toNatClampNeg)) 26 30 v6.toNatClampNeg v7) 26 31 v6.toNatClampNeg (v7 + (gA (sA (sA (sA (sA σ 26 27 v6.toNatClampNeg (gA σ 26 10 (gA σ 26 7 v5.toNatClampNeg).toNatClampNeg)) 26 28 v6.toNatClampNeg (gA (sA σ 26 27 v6.toNatClampNeg (gA σ 26 10 (gA σ 26 7 v5.toNatClampNeg).toNatClampNeg)) 26 34 v5.toNatClampNeg)) 26 29 v6.toNatClampNeg (gA (sA (sA σ 26 27 v6.toNatClampNeg (gA σ 26 10 (gA σ 26 7 v5.toNatClampNeg).toNatClampNeg)) 26 28 v6.toNatClampNeg (gA (sA σ 26 27 v6.toNatClampNeg (gA σ 26 10 (gA σ 26 7 v5.toNatClampNeg).toNatClampNeg)) 26 34 v5.toNatClampNeg)) 26 35 v5.toNatClampNeg)) 26 30 v6.toNatClampNeg v7) 26 12 (gA (sA (sA (sA (sA σ 26 27 v6.toNatClampNeg (gA σ 26 10 (gA σ 26 7 v5.toNatClampNeg).toNatClampNeg)) 26 28 v6.toNatClampNeg (gA (sA σ 26 27 v6.toNatClampNeg (gA σ 26 10 (gA σ 26 7 v5.toNatClampNeg).toNatClampNeg)) 26 34 v5.toNatClampNeg)) 26 29 v6.toNatClampNeg (gA (sA (sA σ 26 27 v6.toNatClampNeg (gA σ 26 10 (gA σ 26 7 v5.toNatClampNeg).toNatClampNeg)) 26 28 v6.toNatClampNeg (gA (sA σ 26 27 v6.toNatClampNeg (gA σ 26 10 (gA σ 26 7 v5.toNatClampNeg).toNatClampNeg)) 26 34 v5.toNatClampNeg)) 26 35 v5.toNatClampNeg)) 26 30 v6.toNatClampNeg v7) 26 7 v5.toNatClampNeg).toNatClampNeg))) 26 32 v6.toNatClampNeg ((gI σ 13 49 0) - 1)) 13 55 0 ((gI σ 13 55 0) + 1)) 26 5 v5.toNatClampNeg ((gA (sI (sA (sA (sA (sA (sA (sA σ 26 27 v6.toNatClampNeg (gA σ 26 10 (gA σ 26 7 v5.toNatClampNeg).toNatClampNeg)) 26 28 v6.toNatClampNeg (gA (sA σ 26 27 v6.toNatClampNeg (gA σ 26 10 (gA σ 26 7 v5.toNatClampNeg).toNatClampNeg)) 26 34 v5.toNatClampNeg)) 26 29 v6.toNatClampNeg (gA (sA (sA σ 26 27 v6.toNatClampNeg (gA σ 26 10 (gA σ 26 7 v5.toNatClampNeg).toNatClampNeg)) 26 28 v6.toNatClampNeg (gA (sA σ 26 27 v6.toNatClampNeg (gA σ 26 10 (gA σ 26 7 v5.toNatClampNeg).toNatClampNeg)) 26 34 v5.toNatClampNeg)) 26 35 v5.toNatClampNeg)) 26 30 v6.toNatClampNeg v7) 26 31 v6.toNatClampNeg (v7 + (gA (sA (sA (sA (sA σ 26 27 v6.toNatClampNeg (gA σ 26 10 (gA σ 26 7 v5.toNatClampNeg).toNatClampNeg)) 26 28 v6.toNatClampNeg (gA (sA σ 26 27 v6.toNatClampNeg (gA σ 26 10 (gA σ 26 7 v5.toNatClampNeg).toNatClampNeg)) 26 34 v5.toNatClampNeg)) 26 29 v6.toNatClampNeg (gA (sA (sA σ 26 27 v6.toNatClampNeg (gA σ 26 10 (gA σ 26 7 v5.toNatClampNeg).toNatClampNeg)) 26 28 v6.toNatClampNeg (gA (sA σ 26 27 v6.toNatClampNeg (gA σ 26 10 (gA σ 26 7 v5.toNatClampNeg).toNatClampNeg)) 26 34 v5.toNatClampNeg)) 26 35 v5.toNatClampNeg)) 26 30 v6.toNatClampNeg v7) 26 12 (gA (sA (sA (sA (sA σ 26 27 v6.toNatClampNeg (gA σ 26 10 (gA σ 26 7 v5.toNatClampNeg).toNatClampNeg)) 26 28 v6.toNatClampNeg (gA (sA σ 26 27 v6.toNatClampNeg (gA σ 26 10 (gA σ 26 7 v5.toNatClampNeg).toNatClampNeg)) 26 34 v5.toNatClampNeg)) 26 29 v6.toNatClampNeg (gA (sA (sA σ 26 27 v6.toNatClampNeg (gA σ 26 10 (gA σ 26 7 v5.toNatClampNeg).toNatClampNeg)) 26 28 v6.toNatClampNeg (gA (sA σ 26 27 v6.toNatClampNeg (gA σ 26 10 (gA σ 26 7 v5.toNatClampNeg).toNatClampNeg)) 26 34 v5.toNatClampNeg)) 26 35 v5.toNatClampNeg)) 26 30 v6.toNatClampNeg v7) 26 7 v5.toNatClampNeg).toNatClampNeg))) 26 32 v6.toNatClampNeg ((gI σ 13 49 0) - 1)) 13 55 0 ((gI σ 13 55 0) + 1)) 26 5 v5.toNatClampNeg) + 1)) 26 6 v5.toNatClampNeg (((1440 * (gI σ 13 2 0)) + (gA (sA (sI (sA (sA (sA (sA (sA (sA σ 26 27 v6.toNatClampNeg (gA σ 26 10 (gA σ 26 7 v5.toNatClampNeg).toNatClampNeg)) 26 28 v6.toNatClampNeg (gA (sA σ 26 27 v6.toNatClampNeg (gA σ 26 10 (gA σ 26 7 v5.toNatClampNeg).toNatClampNeg)) 26 34 v5.toNatClampNeg)) 26 29 v6.toNatClampNeg (gA (sA (sA σ 26 27 v6.toNatClampNeg (gA σ 26 10 (gA σ 26 7 v5.toNatClampNeg).toNatClampNeg)) 26 28 v6.toNatClampNeg (gA (sA σ 26 27 v6.toNatClampNeg (gA σ 26 10 (gA σ 26 7 v5.toNatClampNeg).toNatClampNeg)) 26 34 v5.toNatClampNeg)) 26 35 v5.toNatClampNeg)) 26 30 v6.toNatClampNeg v7) 26 31 v6.toNatClampNeg (v7 + (gA (sA (sA (sA (sA σ 26 27 v6.toNatClampNeg (gA σ 26 10 (gA σ 26 7 v5.toNatClampNeg).toNatClampNeg)) 26 28 v6.toNatClampNeg (gA (sA σ 26 27 v6.toNatClampNeg (gA σ 26 10 (gA σ 26 7 v5.toNatClampNeg).toNatClampNeg)) 26 34 v5.toNatClampNeg)) 26 29 v6.toNatClampNeg (gA (sA (sA σ 26 27 v6.toNatClampNeg (gA σ 26 10 (gA σ 26 7 v5.toNatClampNeg).toNatClampNeg)) 26 28 v6.toNatClampNeg (gA (sA σ 26 27 v6.toNatClampNeg (gA σ 26 10 (gA σ 26 7 v5.toNatClampNeg).toNatClampNeg)) 26 34 v5.toNatClampNeg)) 26 35 v5.toNatClampNeg)) 26 30 v6.toNatClampNeg v7) 26 12 (gA (sA (sA (sA (sA σ 26 27 v6.toNatClampNeg (gA σ 26 10 (gA σ 26 7 v5.toNatClampNeg).toNatClampNeg)) 26 28 v6.toNatClampNeg (gA (sA σ 26 27 v6.toNatClampNeg (gA σ 26 10 (gA σ 26 7 v5.toNatClampNeg).toNatClampNeg)) 26 34 v5.toNatClampNeg)) 26 29 v6.toNatClampNeg (gA (sA (sA σ 26 27 v6.toNatClampNeg (gA σ 26 10 (gA σ 26 7 v5.toNatClampNeg).toNatClampNeg)) 26 28 v6.toNatClampNeg (gA (sA σ 26 27 v6.toNatClampNeg (gA σ 26 10 (gA σ 26 7 v5.toNatClampNeg).toNatClampNeg)) 26 34 v5.toNatClampNeg)) 26 35 v5.toNatClampNeg)) 26 30 v6.toNatClampNeg v7) 26 7 v5.toNatClampNeg).toNatClampNeg))) 26 32 v6.toNatClampNeg ((gI σ 13 49 0) - 1)) 13 55 0 ((gI σ 13 55 0) + 1)) 26 5 v5.toNatClampNeg ((gA (sI (sA (sA (sA (sA (sA (sA σ 26 27 v6.toNatClampNeg (gA σ 26 10 (gA σ 26 7 v5.toNatClampNeg).toNatClampNeg)) 26 28 v6.toNatClampNeg (gA (sA σ 26 27 v6.toNatClampNeg (gA σ 26 10 (gA σ 26 7 v5.toNatClampNeg).toNatClampNeg)) 26 34 v5.toNatClampNeg)) 26 29 v6.toNatClampNeg (gA (sA (sA σ 26 27 v6.toNatClampNeg (gA σ 26 10 (gA σ 26 7 v5.toNatClampNeg).toNatClampNeg)) 26 28 v6.toNatClampNeg (gA (sA σ 26 27 v6.toNatClampNeg (gA σ 26 10 (gA σ 26 7 v5.toNatClampNeg).toNatClampNeg)) 26 34 v5.toNatClampNeg)) 26 35 v5.toNatClampNeg)) 26 30 v6.toNatClampNeg v7) 26 31 v6.toNatClampNeg (v7 + (gA (sA (sA (sA (sA σ 26 27 v6.toNatClampNeg (gA σ 26 10 (gA σ 26 7 v5.toNatClampNeg).toNatClampNeg)) 26 28 v6.toNatClampNeg (gA (sA σ 26 27 v6.toNatClampNeg (gA σ 26 10 (gA σ 26 7 v5.toNatClampNeg).toNatClampNeg)) 26 34 v5.toNatClampNeg)) 26 29 v6.toNatClampNeg (gA (sA (sA σ 26 27 v6.toNatClampNeg (gA σ 26 10 (gA σ 26 7 v5.toNatClampNeg).toNatClampNeg)) 26 28 v6.toNatClampNeg (gA (sA σ 26 27 v6.toNatClampNeg (gA σ 26 10 (gA σ 26 7 v5.toNatClampNeg).toNatClampNeg)) 26 34 v5.toNatClampNeg)) 26 35 v5.toNatClampNeg)) 26 30 v6.toNatClampNeg v7) 26 12 (gA (sA (sA (sA (sA σ 26 27 v6.toNatClampNeg (gA σ 26 10 (gA σ 26 7 v5.toNatClampNeg).toNatClampNeg)) 26 28 v6.toNatClampNeg (gA (sA σ 26 27 v6.toNatClampNeg (gA σ 26 10 (gA σ 26 7 v5.toNatClampNeg).toNatClampNeg)) 26 34 v5.toNatClampNeg)) 26 29 v6.toNatClampNeg (gA (sA (sA σ 26 27 v6.toNatClampNeg (gA σ 26 10 (gA σ 26 7 v5.toNatClampNeg).toNatClampNeg)) 26 28 v6.toNatClampNeg (gA (sA σ 26 27 v6.toNatClampNeg (gA σ 26 10 (gA σ 26 7 v5.toNatClampNeg).toNatClampNeg)) 26 34 v5.toNatClampNeg)) 26 35 v5.toNatClampNeg)) 26 30 v6.toNatClampNeg v7) 26 7 v5.toNatClampNeg).toNatClampNeg))) 26 32 v6.toNatClampNeg ((gI σ 13 49 0) - 1)) 13 55 0 ((gI σ 13 55 0) + 1)) 26 5 v5.toNatClampNeg) + 1)) 26 31 v6.toNatClampNeg)) + 660)) (retI (fun x7 σ6 => AW G l M_X12_step (d + 1) post σ6 kk nn 154 [some (xR (some (13, 0))), none, none, none, some (xI (if v4 < (gA (sA (sA (sA (sA (sA (sA σ 26 27 v6.toNatClampNeg (gA σ 26 10 (gA σ 26 7 v5.toNatClampNeg).toNatClampNeg)) 26 28 v6.toNatClampNeg (gA (sA σ 26 27 v6.toNatClampNeg (gA σ 26 10 (gA σ 26 7 v5.toNatClampNeg).toNatClampNeg)) 26 34 v5.toNatClampNeg)) 26 29 v6.toNatClampNeg (gA (sA (sA σ 26 27 v6.toNatClampNeg (gA σ 26 10 (gA σ 26 7 v5.toNatClampNeg).toNatClampNeg)) 26 28 v6.toNatClampNeg (gA (sA σ 26 27 v6.toNatClampNeg (gA σ 26 10 (gA σ 26 7 v5.toNatClampNeg).toNatClampNeg)) 26 34 v5.toNatClampNeg)) 26 35 v5.toNatClampNeg)) 26 30 v6.toNatClampNeg v7) 26 31 v6.toNatClampNeg (v7 + (gA (sA (sA (sA (sA σ 26 27 v6.toNatClampNeg (gA σ 26 10 (gA σ 26 7 v5.toNatClampNeg).toNatClampNeg)) 26 28 v6.toNatClampNeg (gA (sA σ 26 27 v6.toNatClampNeg (gA σ 26 10 (gA σ 26 7 v5.toNatClampNeg).toNatClampNeg)) 26 34 v5.toNatClampNeg)) 26 29 v6.toNatClampNeg (gA (sA (sA σ 26 27 v6.toNatClampNeg (gA σ 26 10 (gA σ 26 7 v5.toNatClampNeg).toNatClampNeg)) 26 28 v6.toNatClampNeg (gA (sA σ 26 27 v6.toNatClampNeg (gA σ 26 10 (gA σ 26 7 v5.toNatClampNeg).toNatClampNeg)) 26 34 v5.toNatClampNeg)) 26 35 v5.toNatClampNeg)) 26 30 v6.toNatClampNeg v7) 26 12 (gA (sA (sA (sA (sA σ 26 27 v6.toNatClampNeg (gA σ 26 10 (gA σ 26 7 v5.toNatClampNeg).toNatClampNeg)) 26 28 v6.toNatClampNeg (gA (sA σ 26 27 v6.toNatClampNeg (gA σ 26 10 (gA σ 26 7 v5.toNatClampNeg).toNatClampNeg)) 26 34 v5.toNatClampNeg)) 26 29 v6.toNatClampNeg (gA (sA (sA σ 26 27 v6.toNatClampNeg (gA σ 26 10 (gA σ 26 7 v5.toNatClampNeg).toNatClampNeg)) 26 28 v6.toNatClampNeg (gA (sA σ 26 27 v6.toNatClampNeg (gA σ 26 10 (gA σ 26 7 v5.toNatClampNeg).toNatClampNeg)) 26 34 v5.toNatClampNeg)) 26 35 v5.toNatClampNeg)) 26 30 v6.toNatClampNeg v7) 26 7 v5.toNatClampNeg).toNatClampNeg))) 26 32 v6.toNatClampNeg ((gI σ 13 49 0) - 1)) 26 31 v6.toNatClampNeg) then (gA (sA (sA (sA (sA (sA (sA σ 26 27 v6.toNatClampNeg (gA σ 26 10 (gA σ 26 7 v5.toNatClampNeg).toNatClampNeg)) 26 28 v6.toNatClampNeg (gA (sA σ 26 27 v6.toNatClampNeg (gA σ 26 10 (gA σ 26 7 v5.toNatClampNeg).toNatClampNeg)) 26 34 v5.toNatClampNeg)) 26 29 v6.toNatClampNeg (gA (sA (sA σ 26 27 v6.toNatClampNeg (gA σ 26 10 (gA σ 26 7 v5.toNatClampNeg).toNatClampNeg)) 26 28 v6.toNatClampNeg (gA (sA σ 26 27 v6.toNatClampNeg (gA σ 26 10 (gA σ 26 7 v5.toNatClampNeg).toNatClampNeg)) 26 34 v5.toNatClampNeg)) 26 35 v5.toNatClampNeg)) 26 30 v6.toNatClampNeg v7) 26 31 v6.toNatClampNeg (v7 + (gA (sA (sA (sA (sA σ 26 27 v6.toNatClampNeg (gA σ 26 10 (gA σ 26 7 v5.toNatClampNeg).toNatClampNeg)) 26 28 v6.toNatClampNeg (gA (sA σ 26 27 v6.toNatClampNeg (gA σ 26 10 (gA σ 26 7 v5.toNatClampNeg).toNatClampNeg)) 26 34 v5.toNatClampNeg)) 26 29 v6.toNatClampNeg (gA (sA (sA σ 26 27 v6.toNatClampNeg (gA σ 26 10 (gA σ 26 7 v5.toNatClampNeg).toNatClampNeg)) 26 28 v6.toNatClampNeg (gA (sA σ 26 27 v6.toNatClampNeg (gA σ 26 10 (gA σ 26 7 v5.toNatClampNeg).toNatClampNeg)) 26 34 v5.toNatClampNeg)) 26 35 v5.toNatClampNeg)) 26 30 v6.toNatClampNeg v7) 26 12 (gA (sA (sA (sA (sA σ 26 27 v6.toNatClampNeg (gA σ 26 10 (gA σ 26 7 v5.toNatClampNeg).toNatClampNeg)) 26 28 v6.toNatClampNeg (gA (sA σ 26 27 v6.toNatClampNeg (gA σ 26 10 (gA σ 26 7 v5.toNatClampNeg).toNatClampNeg)) 26 34 v5.toNatClampNeg)) 26 29 v6.toNatClampNeg (gA (sA (sA σ 26 27 v6.toNatClampNeg (gA σ 26 10 (gA σ 26 7 v5.toNatClampNeg).toNatClampNeg)) 26 28 v6.toNatClampNeg (gA (sA σ 26 27 v6.toNatClampNeg (gA σ 26 10 (gA σ 26 7 v5.toNatClampNeg).toNatClampNeg)) 26 34 v5.toNatClampNeg)) 26 35 v5.toNatClampNeg)) 26 30 v6.toNatClampNeg v7) 26 7 v5.toNatClampNeg).toNatClampNeg))) 26 32 v6.toNatClampNeg ((gI σ 13 49 0) - 1)) 26 31 v6.toNatClampNeg) else v4)), some (xI (v5 + 1)), none, none, none] []))))))))))))))))))))))) ∧ ((¬ (gI σ 13 1 0) ≤ v8 → (vp_in v8 40 ∧ (vp_in v5 40 ∧ (((¬ (gA σ 26 7 v8.toNatClampNeg) = (gA σ 26 7 v5.toNatClampNeg) → AW G l M_X12_step (d + 1) post σ kk nn 203 [some (xR (some (13, 0))), none, none, none, some (xI v4), some (xI v5), some (xI v6), some (xI v7), some (xI (v8 + 1))] [])) ∧ (((gA σ 26 7 v8.toNatClampNeg) = (gA σ 26 7 v5.toNatClampNeg) → (vp_in v8 40 ∧ AW G l M_X12_step (d + 1) post σ kk nn 203 [some (xR (some (13, 0))), none, none, none, some (xI v4), some (xI v5), some (xI v6), some (xI (if v7 < (gA σ 26 35 v8.toNatClampNeg) then (gA σ 26 35 v8.toNatClampNeg) else v7)), some (xI (v8 + 1))] [])))))))))) : AW G l M_X12_step (d + 1) post σ kk nn 203 [some (xR (some (13, 0))), none, none, none, some (xI v4), some (xI v5), some (xI v6), some (xI v7), some (xI v8)] [] := by
  refine aw_iload (i := 8) d_X12_step_203 rfl ?_
  refine aw_aload_n (i := 0) d_X12_step_205 rfl rfl ?_
  refine aw_getI fl_RX12_151 rfl d_X12_step_206 ?_
  refine aw_icmp_ge (tgt := 249) d_X12_step_209 (by decide) (fun c => ?_) (fun c => ?_)
  · have h := h.1 c
    refine aw_aload_n (i := 0) d_X12_step_249 rfl rfl ?_
    refine aw_getRv fl_RX12_118 rfl (r := some (26, 27)) (St.get hS 13 56 0 26 27 (by decide)) d_X12_step_250 ?_
    refine aw_iload (i := 6) d_X12_step_253 rfl ?_
    refine aw_aload_n (i := 0) d_X12_step_255 rfl rfl ?_
    refine aw_getRv fl_RX12_58 rfl (r := some (26, 10)) (St.get hS 13 32 0 26 10 (by decide)) d_X12_step_256 ?_
    refine aw_aload_n (i := 0) d_X12_step_259 rfl rfl ?_
    refine aw_getRv fl_RX12_39 rfl (r := some (26, 7)) (St.get hS 13 11 0 26 7 (by decide)) d_X12_step_260 ?_
    refine aw_iload (i := 5) d_X12_step_263 rfl ?_
    obtain ⟨hq, h⟩ := h
    refine aw_iald d_X12_step_265 (by decide) (vp_of (St.len hS 26 7 40 (by decide)) hq) ?_
    obtain ⟨hq, h⟩ := h
    refine aw_iald d_X12_step_266 (by decide) (vp_of (St.len hS 26 10 6 (by decide)) hq) ?_
    obtain ⟨hq, h⟩ := h
    refine aw_iast d_X12_step_267 (by decide) (vp_of (St.len hS 26 27 2400 (by decide)) hq) ?_
    refine aw_aload_n (i := 0) d_X12_step_268 rfl rfl ?_
    refine aw_getRv fl_RX12_121 rfl (r := some (26, 28)) (St.get (St.sA hS) 13 57 0 26 28 (by decide)) d_X12_step_269 ?_
    refine aw_iload (i := 6) d_X12_step_272 rfl ?_
    refine aw_aload_n (i := 0) d_X12_step_274 rfl rfl ?_
    refine aw_getRv fl_RX12_142 rfl (r := some (26, 34)) (St.get (St.sA hS) 13 64 0 26 34 (by decide)) d_X12_step_275 ?_
    refine aw_iload (i := 5) d_X12_step_278 rfl ?_
    obtain ⟨hq, h⟩ := h
    refine aw_iald d_X12_step_280 (by decide) (vp_of (St.len (St.sA hS) 26 34 40 (by decide)) hq) ?_
    obtain ⟨hq, h⟩ := h
    refine aw_iast d_X12_step_281 (by decide) (vp_of (St.len (St.sA hS) 26 28 2400 (by decide)) hq) ?_
    refine aw_aload_n (i := 0) d_X12_step_282 rfl rfl ?_
    refine aw_getRv fl_RX12_124 rfl (r := some (26, 29)) (St.get (St.sA (St.sA hS)) 13 58 0 26 29 (by decide)) d_X12_step_283 ?_
    refine aw_iload (i := 6) d_X12_step_286 rfl ?_
    refine aw_aload_n (i := 0) d_X12_step_288 rfl rfl ?_
    refine aw_getRv fl_RX12_145 rfl (r := some (26, 35)) (St.get (St.sA (St.sA hS)) 13 65 0 26 35 (by decide)) d_X12_step_289 ?_
    refine aw_iload (i := 5) d_X12_step_292 rfl ?_
    obtain ⟨hq, h⟩ := h
    refine aw_iald d_X12_step_294 (by decide) (vp_of (St.len (St.sA (St.sA hS)) 26 35 40 (by decide)) hq) ?_
    obtain ⟨hq, h⟩ := h
    refine aw_iast d_X12_step_295 (by decide) (vp_of (St.len (St.sA (St.sA hS)) 26 29 2400 (by decide)) hq) ?_
    refine aw_aload_n (i := 0) d_X12_step_296 rfl rfl ?_
    refine aw_getRv fl_RX12_127 rfl (r := some (26, 30)) (St.get (St.sA (St.sA (St.sA hS))) 13 59 0 26 30 (by decide)) d_X12_step_297 ?_
    refine aw_iload (i := 6) d_X12_step_300 rfl ?_
    refine aw_iload (i := 7) d_X12_step_302 rfl ?_
    obtain ⟨hq, h⟩ := h
    refine aw_iast d_X12_step_304 (by decide) (vp_of (St.len (St.sA (St.sA (St.sA hS))) 26 30 2400 (by decide)) hq) ?_
    refine aw_aload_n (i := 0) d_X12_step_305 rfl rfl ?_
    refine aw_getRv fl_RX12_130 rfl (r := some (26, 31)) (St.get (St.sA (St.sA (St.sA (St.sA hS)))) 13 60 0 26 31 (by decide)) d_X12_step_306 ?_
    refine aw_iload (i := 6) d_X12_step_309 rfl ?_
    refine aw_iload (i := 7) d_X12_step_311 rfl ?_
    refine aw_aload_n (i := 0) d_X12_step_313 rfl rfl ?_
    refine aw_getRv fl_RX12_64 rfl (r := some (26, 12)) (St.get (St.sA (St.sA (St.sA (St.sA hS)))) 13 34 0 26 12 (by decide)) d_X12_step_314 ?_
    refine aw_aload_n (i := 0) d_X12_step_317 rfl rfl ?_
    refine aw_getRv fl_RX12_39 rfl (r := some (26, 7)) (St.get (St.sA (St.sA (St.sA (St.sA hS)))) 13 11 0 26 7 (by decide)) d_X12_step_318 ?_
    refine aw_iload (i := 5) d_X12_step_321 rfl ?_
    obtain ⟨hq, h⟩ := h
    refine aw_iald d_X12_step_323 (by decide) (vp_of (St.len (St.sA (St.sA (St.sA (St.sA hS)))) 26 7 40 (by decide)) hq) ?_
    obtain ⟨hq, h⟩ := h
    refine aw_iald d_X12_step_324 (by decide) (vp_of (St.len (St.sA (St.sA (St.sA (St.sA hS)))) 26 12 6 (by decide)) hq) ?_
    refine aw_iadd d_X12_step_325 ?_
    obtain ⟨hq, h⟩ := h
    refine aw_iast d_X12_step_326 (by decide) (vp_of (St.len (St.sA (St.sA (St.sA (St.sA hS)))) 26 31 2400 (by decide)) hq) ?_
    refine aw_aload_n (i := 0) d_X12_step_327 rfl rfl ?_
    refine aw_getRv fl_RX12_133 rfl (r := some (26, 32)) (St.get (St.sA (St.sA (St.sA (St.sA (St.sA hS))))) 13 61 0 26 32 (by decide)) d_X12_step_328 ?_
    refine aw_iload (i := 6) d_X12_step_331 rfl ?_
    refine aw_aload_n (i := 0) d_X12_step_333 rfl rfl ?_
    refine aw_getIv fl_RX12_345 rfl (x := gI σ 13 49 0) rfl d_X12_step_334 ?_
    refine aw_iconst (x := 1) d_X12_step_337 (by decide) ?_
    refine aw_isub d_X12_step_338 ?_
    obtain ⟨hq, h⟩ := h
    refine aw_iast d_X12_step_339 (by decide) (vp_of (St.len (St.sA (St.sA (St.sA (St.sA (St.sA hS))))) 26 32 2400 (by decide)) hq) ?_
    refine aw_iload (i := 4) d_X12_step_340 rfl ?_
    refine aw_aload_n (i := 0) d_X12_step_342 rfl rfl ?_
    refine aw_getRv fl_RX12_130 rfl (r := some (26, 31)) (St.get (St.sA (St.sA (St.sA (St.sA (St.sA (St.sA hS)))))) 13 60 0 26 31 (by decide)) d_X12_step_343 ?_
    refine aw_iload (i := 6) d_X12_step_346 rfl ?_
    obtain ⟨hq, h⟩ := h
    refine aw_iald d_X12_step_348 (by decide) (vp_of (St.len (St.sA (St.sA (St.sA (St.sA (St.sA (St.sA hS)))))) 26 31 2400 (by decide)) hq) ?_
    refine aw_mmax ml_RX12_365 d_X12_step_349 (Nat.le_of_ble_eq_true rfl) ?_
    refine aw_istore (i := 4) d_X12_step_352 (by decide) ?_
    refine aw_aload_n (i := 0) d_X12_step_354 rfl rfl ?_
    refine aw_dupR d_X12_step_355 ?_
    refine aw_getIv fl_RX12_375 rfl (x := gI σ 13 55 0) rfl d_X12_step_356 ?_
    refine aw_iconst (x := 1) d_X12_step_359 (by decide) ?_
    refine aw_iadd d_X12_step_360 ?_
    refine aw_putI fl_RX12_375 (by decide) (fin_no (r := (RX12, TX12, 68)) rfl rfl) d_X12_step_361 rfl ⟨rfl, rfl⟩ ?_
    refine aw_aload_n (i := 0) d_X12_step_364 rfl rfl ?_
    refine aw_getRv fl_RX12_33 rfl (r := some (26, 5)) (St.get (St.sI (St.sA (St.sA (St.sA (St.sA (St.sA (St.sA hS))))))) 13 9 0 26 5 (by decide)) d_X12_step_365 ?_
    refine aw_iload (i := 5) d_X12_step_368 rfl ?_
    refine aw_dup2 d_X12_step_370 ?_
    obtain ⟨hq, h⟩ := h
    refine aw_iald d_X12_step_371 (by decide) (vp_of (St.len (St.sI (St.sA (St.sA (St.sA (St.sA (St.sA (St.sA hS))))))) 26 5 40 (by decide)) hq) ?_
    refine aw_iconst (x := 1) d_X12_step_372 (by decide) ?_
    refine aw_iadd d_X12_step_373 ?_
    obtain ⟨hq, h⟩ := h
    refine aw_iast d_X12_step_374 (by decide) (vp_of (St.len (St.sI (St.sA (St.sA (St.sA (St.sA (St.sA (St.sA hS))))))) 26 5 40 (by decide)) hq) ?_
    refine aw_aload_n (i := 0) d_X12_step_375 rfl rfl ?_
    refine aw_getRv fl_RX12_36 rfl (r := some (26, 6)) (St.get (St.sA (St.sI (St.sA (St.sA (St.sA (St.sA (St.sA (St.sA hS)))))))) 13 10 0 26 6 (by decide)) d_X12_step_376 ?_
    refine aw_iload (i := 5) d_X12_step_379 rfl ?_
    refine aw_sipush (x := 1440) d_X12_step_381 (by decide) ?_
    refine aw_aload_n (i := 0) d_X12_step_384 rfl rfl ?_
    refine aw_getIv fl_RX12_304 rfl (x := gI σ 13 2 0) rfl d_X12_step_385 ?_
    refine aw_imul d_X12_step_388 ?_
    refine aw_aload_n (i := 0) d_X12_step_389 rfl rfl ?_
    refine aw_getRv fl_RX12_130 rfl (r := some (26, 31)) (St.get (St.sA (St.sI (St.sA (St.sA (St.sA (St.sA (St.sA (St.sA hS)))))))) 13 60 0 26 31 (by decide)) d_X12_step_390 ?_
    refine aw_iload (i := 6) d_X12_step_393 rfl ?_
    obtain ⟨hq, h⟩ := h
    refine aw_iald d_X12_step_395 (by decide) (vp_of (St.len (St.sA (St.sI (St.sA (St.sA (St.sA (St.sA (St.sA (St.sA hS)))))))) 26 31 2400 (by decide)) hq) ?_
    refine aw_iadd d_X12_step_396 ?_
    refine aw_sipush (x := 660) d_X12_step_397 (by decide) ?_
    refine aw_iadd d_X12_step_400 ?_
    obtain ⟨hq, h⟩ := h
    refine aw_iast d_X12_step_401 (by decide) (vp_of (St.len (St.sA (St.sI (St.sA (St.sA (St.sA (St.sA (St.sA (St.sA hS)))))))) 26 6 40 (by decide)) hq) ?_
    refine aw_aload_n (i := 0) d_X12_step_402 rfl rfl ?_
    refine aw_iload (i := 5) d_X12_step_403 rfl ?_
    refine aw_aload_n (i := 0) d_X12_step_405 rfl rfl ?_
    refine aw_getRv fl_RX12_118 rfl (r := some (26, 27)) (St.get (St.sA (St.sA (St.sI (St.sA (St.sA (St.sA (St.sA (St.sA (St.sA hS))))))))) 13 56 0 26 27 (by decide)) d_X12_step_406 ?_
    refine aw_iload (i := 6) d_X12_step_409 rfl ?_
    obtain ⟨hq, h⟩ := h
    refine aw_iald d_X12_step_411 (by decide) (vp_of (St.len (St.sA (St.sA (St.sI (St.sA (St.sA (St.sA (St.sA (St.sA (St.sA hS))))))))) 26 27 2400 (by decide)) hq) ?_
    refine aw_callV0 (as := [xI v5, xI (gA (sA (sA (sI (sA (sA (sA (sA (sA (sA σ 26 27 v6.toNatClampNeg (gA σ 26 10 (gA σ 26 7 v5.toNatClampNeg).toNatClampNeg)) 26 28 v6.toNatClampNeg (gA (sA σ 26 27 v6.toNatClampNeg (gA σ 26 10 (gA σ 26 7 v5.toNatClampNeg).toNatClampNeg)) 26 34 v5.toNatClampNeg)) 26 29 v6.toNatClampNeg (gA (sA (sA σ 26 27 v6.toNatClampNeg (gA σ 26 10 (gA σ 26 7 v5.toNatClampNeg).toNatClampNeg)) 26 28 v6.toNatClampNeg (gA (sA σ 26 27 v6.toNatClampNeg (gA σ 26 10 (gA σ 26 7 v5.toNatClampNeg).toNatClampNeg)) 26 34 v5.toNatClampNeg)) 26 35 v5.toNatClampNeg)) 26 30 v6.toNatClampNeg v7) 26 31 v6.toNatClampNeg (v7 + (gA (sA (sA (sA (sA σ 26 27 v6.toNatClampNeg (gA σ 26 10 (gA σ 26 7 v5.toNatClampNeg).toNatClampNeg)) 26 28 v6.toNatClampNeg (gA (sA σ 26 27 v6.toNatClampNeg (gA σ 26 10 (gA σ 26 7 v5.toNatClampNeg).toNatClampNeg)) 26 34 v5.toNatClampNeg)) 26 29 v6.toNatClampNeg (gA (sA (sA σ 26 27 v6.toNatClampNeg (gA σ 26 10 (gA σ 26 7 v5.toNatClampNeg).toNatClampNeg)) 26 28 v6.toNatClampNeg (gA (sA σ 26 27 v6.toNatClampNeg (gA σ 26 10 (gA σ 26 7 v5.toNatClampNeg).toNatClampNeg)) 26 34 v5.toNatClampNeg)) 26 35 v5.toNatClampNeg)) 26 30 v6.toNatClampNeg v7) 26 12 (gA (sA (sA (sA (sA σ 26 27 v6.toNatClampNeg (gA σ 26 10 (gA σ 26 7 v5.toNatClampNeg).toNatClampNeg)) 26 28 v6.toNatClampNeg (gA (sA σ 26 27 v6.toNatClampNeg (gA σ 26 10 (gA σ 26 7 v5.toNatClampNeg).toNatClampNeg)) 26 34 v5.toNatClampNeg)) 26 29 v6.toNatClampNeg (gA (sA (sA σ 26 27 v6.toNatClampNeg (gA σ 26 10 (gA σ 26 7 v5.toNatClampNeg).toNatClampNeg)) 26 28 v6.toNatClampNeg (gA (sA σ 26 27 v6.toNatClampNeg (gA σ 26 10 (gA σ 26 7 v5.toNatClampNeg).toNatClampNeg)) 26 34 v5.toNatClampNeg)) 26 35 v5.toNatClampNeg)) 26 30 v6.toNatClampNeg v7) 26 7 v5.toNatClampNeg).toNatClampNeg))) 26 32 v6.toNatClampNeg ((gI σ 13 49 0) - 1)) 13 55 0 ((gI σ 13 55 0) + 1)) 26 5 v5.toNatClampNeg ((gA (sI (sA (sA (sA (sA (sA (sA σ 26 27 v6.toNatClampNeg (gA σ 26 10 (gA σ 26 7 v5.toNatClampNeg).toNatClampNeg)) 26 28 v6.toNatClampNeg (gA (sA σ 26 27 v6.toNatClampNeg (gA σ 26 10 (gA σ 26 7 v5.toNatClampNeg).toNatClampNeg)) 26 34 v5.toNatClampNeg)) 26 29 v6.toNatClampNeg (gA (sA (sA σ 26 27 v6.toNatClampNeg (gA σ 26 10 (gA σ 26 7 v5.toNatClampNeg).toNatClampNeg)) 26 28 v6.toNatClampNeg (gA (sA σ 26 27 v6.toNatClampNeg (gA σ 26 10 (gA σ 26 7 v5.toNatClampNeg).toNatClampNeg)) 26 34 v5.toNatClampNeg)) 26 35 v5.toNatClampNeg)) 26 30 v6.toNatClampNeg v7) 26 31 v6.toNatClampNeg (v7 + (gA (sA (sA (sA (sA σ 26 27 v6.toNatClampNeg (gA σ 26 10 (gA σ 26 7 v5.toNatClampNeg).toNatClampNeg)) 26 28 v6.toNatClampNeg (gA (sA σ 26 27 v6.toNatClampNeg (gA σ 26 10 (gA σ 26 7 v5.toNatClampNeg).toNatClampNeg)) 26 34 v5.toNatClampNeg)) 26 29 v6.toNatClampNeg (gA (sA (sA σ 26 27 v6.toNatClampNeg (gA σ 26 10 (gA σ 26 7 v5.toNatClampNeg).toNatClampNeg)) 26 28 v6.toNatClampNeg (gA (sA σ 26 27 v6.toNatClampNeg (gA σ 26 10 (gA σ 26 7 v5.toNatClampNeg).toNatClampNeg)) 26 34 v5.toNatClampNeg)) 26 35 v5.toNatClampNeg)) 26 30 v6.toNatClampNeg v7) 26 12 (gA (sA (sA (sA (sA σ 26 27 v6.toNatClampNeg (gA σ 26 10 (gA σ 26 7 v5.toNatClampNeg).toNatClampNeg)) 26 28 v6.toNatClampNeg (gA (sA σ 26 27 v6.toNatClampNeg (gA σ 26 10 (gA σ 26 7 v5.toNatClampNeg).toNatClampNeg)) 26 34 v5.toNatClampNeg)) 26 29 v6.toNatClampNeg (gA (sA (sA σ 26 27 v6.toNatClampNeg (gA σ 26 10 (gA σ 26 7 v5.toNatClampNeg).toNatClampNeg)) 26 28 v6.toNatClampNeg (gA (sA σ 26 27 v6.toNatClampNeg (gA σ 26 10 (gA σ 26 7 v5.toNatClampNeg).toNatClampNeg)) 26 34 v5.toNatClampNeg)) 26 35 v5.toNatClampNeg)) 26 30 v6.toNatClampNeg v7) 26 7 v5.toNatClampNeg).toNatClampNeg))) 26 32 v6.toNatClampNeg ((gI σ 13 49 0) - 1)) 13 55 0 ((gI σ 13 55 0) + 1)) 26 5 v5.toNatClampNeg) + 1)) 26 6 v5.toNatClampNeg (((1440 * (gI σ 13 2 0)) + (gA (sA (sI (sA (sA (sA (sA (sA (sA σ 26 27 v6.toNatClampNeg (gA σ 26 10 (gA σ 26 7 v5.toNatClampNeg).toNatClampNeg)) 26 28 v6.toNatClampNeg (gA (sA σ 26 27 v6.toNatClampNeg (gA σ 26 10 (gA σ 26 7 v5.toNatClampNeg).toNatClampNeg)) 26 34 v5.toNatClampNeg)) 26 29 v6.toNatClampNeg (gA (sA (sA σ 26 27 v6.toNatClampNeg (gA σ 26 10 (gA σ 26 7 v5.toNatClampNeg).toNatClampNeg)) 26 28 v6.toNatClampNeg (gA (sA σ 26 27 v6.toNatClampNeg (gA σ 26 10 (gA σ 26 7 v5.toNatClampNeg).toNatClampNeg)) 26 34 v5.toNatClampNeg)) 26 35 v5.toNatClampNeg)) 26 30 v6.toNatClampNeg v7) 26 31 v6.toNatClampNeg (v7 + (gA (sA (sA (sA (sA σ 26 27 v6.toNatClampNeg (gA σ 26 10 (gA σ 26 7 v5.toNatClampNeg).toNatClampNeg)) 26 28 v6.toNatClampNeg (gA (sA σ 26 27 v6.toNatClampNeg (gA σ 26 10 (gA σ 26 7 v5.toNatClampNeg).toNatClampNeg)) 26 34 v5.toNatClampNeg)) 26 29 v6.toNatClampNeg (gA (sA (sA σ 26 27 v6.toNatClampNeg (gA σ 26 10 (gA σ 26 7 v5.toNatClampNeg).toNatClampNeg)) 26 28 v6.toNatClampNeg (gA (sA σ 26 27 v6.toNatClampNeg (gA σ 26 10 (gA σ 26 7 v5.toNatClampNeg).toNatClampNeg)) 26 34 v5.toNatClampNeg)) 26 35 v5.toNatClampNeg)) 26 30 v6.toNatClampNeg v7) 26 12 (gA (sA (sA (sA (sA σ 26 27 v6.toNatClampNeg (gA σ 26 10 (gA σ 26 7 v5.toNatClampNeg).toNatClampNeg)) 26 28 v6.toNatClampNeg (gA (sA σ 26 27 v6.toNatClampNeg (gA σ 26 10 (gA σ 26 7 v5.toNatClampNeg).toNatClampNeg)) 26 34 v5.toNatClampNeg)) 26 29 v6.toNatClampNeg (gA (sA (sA σ 26 27 v6.toNatClampNeg (gA σ 26 10 (gA σ 26 7 v5.toNatClampNeg).toNatClampNeg)) 26 28 v6.toNatClampNeg (gA (sA σ 26 27 v6.toNatClampNeg (gA σ 26 10 (gA σ 26 7 v5.toNatClampNeg).toNatClampNeg)) 26 34 v5.toNatClampNeg)) 26 35 v5.toNatClampNeg)) 26 30 v6.toNatClampNeg v7) 26 7 v5.toNatClampNeg).toNatClampNeg))) 26 32 v6.toNatClampNeg ((gI σ 13 49 0) - 1)) 13 55 0 ((gI σ 13 55 0) + 1)) 26 5 v5.toNatClampNeg ((gA (sI (sA (sA (sA (sA (sA (sA σ 26 27 v6.toNatClampNeg (gA σ 26 10 (gA σ 26 7 v5.toNatClampNeg).toNatClampNeg)) 26 28 v6.toNatClampNeg (gA (sA σ 26 27 v6.toNatClampNeg (gA σ 26 10 (gA σ 26 7 v5.toNatClampNeg).toNatClampNeg)) 26 34 v5.toNatClampNeg)) 26 29 v6.toNatClampNeg (gA (sA (sA σ 26 27 v6.toNatClampNeg (gA σ 26 10 (gA σ 26 7 v5.toNatClampNeg).toNatClampNeg)) 26 28 v6.toNatClampNeg (gA (sA σ 26 27 v6.toNatClampNeg (gA σ 26 10 (gA σ 26 7 v5.toNatClampNeg).toNatClampNeg)) 26 34 v5.toNatClampNeg)) 26 35 v5.toNatClampNeg)) 26 30 v6.toNatClampNeg v7) 26 31 v6.toNatClampNeg (v7 + (gA (sA (sA (sA (sA σ 26 27 v6.toNatClampNeg (gA σ 26 10 (gA σ 26 7 v5.toNatClampNeg).toNatClampNeg)) 26 28 v6.toNatClampNeg (gA (sA σ 26 27 v6.toNatClampNeg (gA σ 26 10 (gA σ 26 7 v5.toNatClampNeg).toNatClampNeg)) 26 34 v5.toNatClampNeg)) 26 29 v6.toNatClampNeg (gA (sA (sA σ 26 27 v6.toNatClampNeg (gA σ 26 10 (gA σ 26 7 v5.toNatClampNeg).toNatClampNeg)) 26 28 v6.toNatClampNeg (gA (sA σ 26 27 v6.toNatClampNeg (gA σ 26 10 (gA σ 26 7 v5.toNatClampNeg).toNatClampNeg)) 26 34 v5.toNatClampNeg)) 26 35 v5.toNatClampNeg)) 26 30 v6.toNatClampNeg v7) 26 12 (gA (sA (sA (sA (sA σ 26 27 v6.toNatClampNeg (gA σ 26 10 (gA σ 26 7 v5.toNatClampNeg).toNatClampNeg)) 26 28 v6.toNatClampNeg (gA (sA σ 26 27 v6.toNatClampNeg (gA σ 26 10 (gA σ 26 7 v5.toNatClampNeg).toNatClampNeg)) 26 34 v5.toNatClampNeg)) 26 29 v6.toNatClampNeg (gA (sA (sA σ 26 27 v6.toNatClampNeg (gA σ 26 10 (gA σ 26 7 v5.toNatClampNeg).toNatClampNeg)) 26 28 v6.toNatClampNeg (gA (sA σ 26 27 v6.toNatClampNeg (gA σ 26 10 (gA σ 26 7 v5.toNatClampNeg).toNatClampNeg)) 26 34 v5.toNatClampNeg)) 26 35 v5.toNatClampNeg)) 26 30 v6.toNatClampNeg v7) 26 7 v5.toNatClampNeg).toNatClampNeg))) 26 32 v6.toNatClampNeg ((gI σ 13 49 0) - 1)) 13 55 0 ((gI σ 13 55 0) + 1)) 26 5 v5.toNatClampNeg) + 1)) 26 31 v6.toNatClampNeg)) + 660)) 26 27 v6.toNatClampNeg)]) mw_X12_fact (by decide +kernel) ml_RX12_169 rfl d_X12_step_412 rfl (Nat.le_of_ble_eq_true rfl) (AMet.mono h (aw_toI (fun x7 σ6 h => ?_)))
    refine aw_istore (i := 8) d_X12_step_415 (by decide) ?_
    refine aw_iinc (i := 5) (v := v5 + 1) d_X12_step_417 rfl rfl (by decide) ?_
    refine aw_goto (tgt := 154) d_X12_step_420 (by decide) ?_
    exact AW.weak h (by exact ⟨rfl, ⟨rfl, ⟨rfl, trivial⟩⟩⟩)
  · have h := h.2 c
    refine aw_aload_n (i := 0) d_X12_step_212 rfl rfl ?_
    refine aw_getRv fl_RX12_39 rfl (r := some (26, 7)) (St.get hS 13 11 0 26 7 (by decide)) d_X12_step_213 ?_
    refine aw_iload (i := 8) d_X12_step_216 rfl ?_
    obtain ⟨hq, h⟩ := h
    refine aw_iald d_X12_step_218 (by decide) (vp_of (St.len hS 26 7 40 (by decide)) hq) ?_
    refine aw_aload_n (i := 0) d_X12_step_219 rfl rfl ?_
    refine aw_getRv fl_RX12_39 rfl (r := some (26, 7)) (St.get hS 13 11 0 26 7 (by decide)) d_X12_step_220 ?_
    refine aw_iload (i := 5) d_X12_step_223 rfl ?_
    obtain ⟨hq, h⟩ := h
    refine aw_iald d_X12_step_225 (by decide) (vp_of (St.len hS 26 7 40 (by decide)) hq) ?_
    refine aw_icmp_ne (tgt := 243) d_X12_step_226 (by decide) (fun c => ?_) (fun c => ?_)
    · have h := h.1 c
      refine aw_iinc (i := 8) (v := v8 + 1) d_X12_step_243 rfl rfl (by decide) ?_
      refine aw_goto (tgt := 203) d_X12_step_246 (by decide) ?_
      exact h
    · have h := h.2 c
      refine aw_iload (i := 7) d_X12_step_229 rfl ?_
      refine aw_aload_n (i := 0) d_X12_step_231 rfl rfl ?_
      refine aw_getRv fl_RX12_145 rfl (r := some (26, 35)) (St.get hS 13 65 0 26 35 (by decide)) d_X12_step_232 ?_
      refine aw_iload (i := 8) d_X12_step_235 rfl ?_
      obtain ⟨hq, h⟩ := h
      refine aw_iald d_X12_step_237 (by decide) (vp_of (St.len hS 26 35 40 (by decide)) hq) ?_
      refine aw_mmax ml_RX12_365 d_X12_step_238 (Nat.le_of_ble_eq_true rfl) ?_
      refine aw_istore (i := 7) d_X12_step_241 (by decide) ?_
      refine aw_iinc (i := 8) (v := v8 + 1) d_X12_step_243 rfl rfl (by decide) ?_
      refine aw_goto (tgt := 203) d_X12_step_246 (by decide) ?_
      exact h
set_option maxRecDepth 20000 in
theorem vc_X12_step_429 {G : GG} {l : Launch} {d : Nat} {post : Option AVal → AS → Prop} {σ : AS} {kk nn : Nat} {v4 : Int32} {v5 : Int32} (hS : St σ) (h : (((40 ≤ v5 → AMet G l M_X12_nobody d 0 0 [xR (some (13, 0))] (sI (sI σ 13 2 0 ((gI σ 13 2 0) + 1)) 13 29 0 0) (retV (fun σ8 => post (some (xI v4)) σ8)))) ∧ ((¬ 40 ≤ v5 → (vp_in ((40 * (gI σ 13 2 0)) + v5) 2400 ∧ AW G l M_X12_step (d + 1) post (sA σ 26 27 ((40 * (gI σ 13 2 0)) + v5).toNatClampNeg (-1)) kk nn 429 [some (xR (some (13, 0))), none, none, none, some (xI v4), some (xI (v5 + 1)), none, none, none] []))))) : AW G l M_X12_step (d + 1) post σ kk nn 429 [some (xR (some (13, 0))), none, none, none, some (xI v4), some (xI v5), none, none, none] [] := by
  refine aw_iload (i := 5) d_X12_step_429 rfl ?_
  refine aw_bipush (x := 40) d_X12_step_431 (by decide) ?_
  refine aw_icmp_ge (tgt := 458) d_X12_step_433 (by decide) (fun c => ?_) (fun c => ?_)
  · have h := h.1 c
    refine aw_aload_n (i := 0) d_X12_step_458 rfl rfl ?_
    refine aw_dupR d_X12_step_459 ?_
    refine aw_getI fl_RX12_304 rfl d_X12_step_460 ?_
    refine aw_iconst (x := 1) d_X12_step_463 (by decide) ?_
    refine aw_iadd d_X12_step_464 ?_
    refine aw_putI fl_RX12_304 (by decide) (fin_no (r := (RX12, TX12, 68)) rfl rfl) d_X12_step_465 rfl ⟨rfl, rfl⟩ ?_
    refine aw_aload_n (i := 0) d_X12_step_468 rfl rfl ?_
    refine aw_iconst (x := 0) d_X12_step_469 (by decide) ?_
    refine aw_putI fl_RX12_298 (by decide) (fin_no (r := (RX12, TX12, 68)) rfl rfl) d_X12_step_470 rfl ⟨rfl, rfl⟩ ?_
    refine aw_aload_n (i := 0) d_X12_step_473 rfl rfl ?_
    refine aw_callV0 (as := []) mw_X12_nobody (by decide +kernel) ml_RX12_301 rfl d_X12_step_474 rfl (Nat.le_of_ble_eq_true rfl) (AMet.mono h (aw_toV (fun σ8 h => ?_)))
    refine aw_iload (i := 4) d_X12_step_477 rfl ?_
    exact aw_ret d_X12_step_479 rfl rfl h
  · have h := h.2 c
    refine aw_aload_n (i := 0) d_X12_step_436 rfl rfl ?_
    refine aw_getRv fl_RX12_118 rfl (r := some (26, 27)) (St.get hS 13 56 0 26 27 (by decide)) d_X12_step_437 ?_
    refine aw_bipush (x := 40) d_X12_step_440 (by decide) ?_
    refine aw_aload_n (i := 0) d_X12_step_442 rfl rfl ?_
    refine aw_getI fl_RX12_304 rfl d_X12_step_443 ?_
    refine aw_imul d_X12_step_446 ?_
    refine aw_iload (i := 5) d_X12_step_447 rfl ?_
    refine aw_iadd d_X12_step_449 ?_
    refine aw_iconst (x := -1) d_X12_step_450 (by decide) ?_
    obtain ⟨hq, h⟩ := h
    refine aw_iast d_X12_step_451 (by decide) (vp_of (St.len hS 26 27 2400 (by decide)) hq) ?_
    refine aw_iinc (i := 5) (v := v5 + 1) d_X12_step_452 rfl rfl (by decide) ?_
    refine aw_goto (tgt := 429) d_X12_step_455 (by decide) ?_
    exact h
