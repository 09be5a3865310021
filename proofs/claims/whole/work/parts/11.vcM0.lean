set_option maxRecDepth 20000 in
theorem vc_X12_thrown {G : GG} {l : Launch} {d : Nat} {post : Option AVal → AS → Prop} {σ : AS} {kk nn : Nat}  (h : post (some (xI (gI σ 13 0 0))) σ) : AW G l M_X12_thrown d post σ kk nn 0 [some (xR (some (13, 0)))] [] := by
  refine aw_aload_n (i := 0) d_X12_thrown_0 rfl rfl ?_
  refine aw_getI fl_RX12_1 rfl d_X12_thrown_1 ?_
  exact aw_ret d_X12_thrown_4 rfl rfl h
set_option maxRecDepth 20000 in
theorem vc_X12_within {G : GG} {l : Launch} {d : Nat} {post : Option AVal → AS → Prop} {σ : AS} {kk nn : Nat} {a1 : Int32} {a2 : Int32} {a3 : Int32} (h : (((a1 < a2 → post (some (xI 0)) σ)) ∧ ((¬ a1 < a2 → (((a3 < a1 → post (some (xI 0)) σ)) ∧ ((¬ a3 < a1 → post (some (xI 1)) σ))))))) : AW G l M_X12_within d post σ kk nn 0 [some (xI a1), some (xI a2), some (xI a3)] [] := by
  refine aw_iload_n (i := 0) d_X12_within_0 rfl rfl ?_
  refine aw_iload_n (i := 1) d_X12_within_1 rfl rfl ?_
  refine aw_icmp_lt (tgt := 14) d_X12_within_2 (by decide) (fun c => ?_) (fun c => ?_)
  · have h := h.1 c
    refine aw_iconst (x := 0) d_X12_within_14 (by decide) ?_
    exact aw_ret d_X12_within_15 rfl (by decide) h
  · have h := h.2 c
    refine aw_iload_n (i := 0) d_X12_within_5 rfl rfl ?_
    refine aw_iload_n (i := 2) d_X12_within_6 rfl rfl ?_
    refine aw_icmp_gt (tgt := 14) d_X12_within_7 (by decide) (fun c => ?_) (fun c => ?_)
    · have h := h.1 c
      refine aw_iconst (x := 0) d_X12_within_14 (by decide) ?_
      exact aw_ret d_X12_within_15 rfl (by decide) h
    · have h := h.2 c
      refine aw_iconst (x := 1) d_X12_within_10 (by decide) ?_
      refine aw_goto (tgt := 15) d_X12_within_11 (by decide) ?_
      exact aw_ret d_X12_within_15 rfl (by decide) h
set_option maxRecDepth 20000 in
theorem vc_X12_init {G : GG} {l : Launch} {d : Nat} {post : Option AVal → AS → Prop} {σ : AS} {kk nn : Nat}  (h : (∃ kk1 nn2 : Nat, (kk = kk1 + 1 ∧ nn = nn2 + 40 ∧ ((∀ σ3 : AS, (σ3 = (sR (nA σ 26 40) 13 3 0 (some (26, (cnt σ 26)))) → (∃ kk4 nn5 : Nat, (kk1 = kk4 + 1 ∧ nn2 = nn5 + 40 ∧ ((∀ σ6 : AS, (σ6 = (sR (nA σ3 26 40) 13 4 0 (some (26, (cnt σ3 26)))) → (∃ kk7 nn8 : Nat, (kk4 = kk7 + 1 ∧ nn5 = nn8 + 40 ∧ ((∀ σ9 : AS, (σ9 = (sR (nA σ6 26 40) 13 5 0 (some (26, (cnt σ6 26)))) → (∃ kk10 nn11 : Nat, (kk7 = kk10 + 1 ∧ nn8 = nn11 + 40 ∧ ((∀ σ12 : AS, (σ12 = (sR (nA σ9 26 40) 13 6 0 (some (26, (cnt σ9 26)))) → (∃ kk13 nn14 : Nat, (kk10 = kk13 + 1 ∧ nn11 = nn14 + 40 ∧ ((∀ σ15 : AS, (σ15 = (sR (nA σ12 26 40) 13 7 0 (some (26, (cnt σ12 26)))) → (∃ kk16 nn17 : Nat, (kk13 = kk16 + 1 ∧ nn14 = nn17 + 40 ∧ ((∀ σ18 : AS, (σ18 = (sR (nA σ15 21 40) 13 8 0 (some (21, (cnt σ15 21)))) → (∃ kk19 nn20 : Nat, (kk16 = kk19 + 1 ∧ nn17 = nn20 + 40 ∧ ((∀ σ21 : AS, (σ21 = (sR (nA σ18 26 40) 13 9 0 (some (26, (cnt σ18 26)))) → (∃ kk22 nn23 : Nat, (kk19 = kk22 + 1 ∧ nn20 = nn23 + 40 ∧ ((∀ σ24 : AS, (σ24 = (sR (nA σ21 26 40) 13 10 0 (some (26, (cnt σ21 26)))) → (∃ kk25 nn26 : Nat, (kk22 = kk25 + 1 ∧ nn23 = nn26 + 40 ∧ ((∀ σ27 : AS, (σ27 = (sR (nA σ24 26 40) 13 11 0 (some (26, (cnt σ24 26)))) → (∃ kk28 nn29 : Nat, (kk25 = kk28 + 1 ∧ nn26 = nn29 + 2600 ∧ ((∀ σ30 : AS, (σ30 = (sR (nA σ27 26 2600) 13 14 0 (some (26, (cnt σ27 26)))) → (∃ kk31 nn32 : Nat, (kk28 = kk31 + 1 ∧ nn29 = nn32 + 2600 ∧ ((∀ σ33 : AS, (σ33 = (sR (nA σ30 26 2600) 13 15 0 (some (26, (cnt σ30 26)))) → (∃ kk34 nn35 : Nat, (kk31 = kk34 + 1 ∧ nn32 = nn35 + 1000 ∧ ((∀ σ36 : AS, (σ36 = (sR (nA σ33 22 1000) 13 16 0 (some (22, (cnt σ33 22)))) → (∀ σ37 : AS, (σ37 = (sI σ36 13 26 0 (-1)) → (∃ kk38 nn39 : Nat, (kk34 = kk38 + 1 ∧ nn35 = nn39 + 1000 ∧ ((∀ σ40 : AS, (σ40 = (sR (nA σ37 22 1000) 13 30 0 (some (22, (cnt σ37 22)))) → (∃ kk41 nn42 : Nat, (kk38 = kk41 + 1 ∧ nn39 = nn42 + 6 ∧ ((∀ σ43 : AS, (σ43 = (sR (nA σ40 26 6) 13 32 0 (some (26, (cnt σ40 26)))) → (∃ kk44 nn45 : Nat, (kk41 = kk44 + 1 ∧ nn42 = nn45 + 6 ∧ ((∀ σ46 : AS, (σ46 = (sR (nA σ43 26 6) 13 33 0 (some (26, (cnt σ43 26)))) → (∃ kk47 nn48 : Nat, (kk44 = kk47 + 1 ∧ nn45 = nn48 + 6 ∧ ((∀ σ49 : AS, (σ49 = (sR (nA σ46 26 6) 13 34 0 (some (26, (cnt σ46 26)))) → (∃ kk50 nn51 : Nat, (kk47 = kk50 + 1 ∧ nn48 = nn51 + 6 ∧ ((∀ σ52 : AS, (σ52 = (sR (nA σ49 26 6) 13 35 0 (some (26, (cnt σ49 26)))) → (∃ kk53 nn54 : Nat, (kk50 = kk53 + 1 ∧ nn51 = nn54 + 6 ∧ ((∀ σ55 : AS, (σ55 = (sR (nA σ52 26 6) 13 36 0 (some (26, (cnt σ52 26)))) → (∃ kk56 nn57 : Nat, (kk53 = kk56 + 1 ∧ nn54 = nn57 + 6 ∧ ((∀ σ58 : AS, (σ58 = (sR (nA σ55 26 6) 13 38 0 (some (26, (cnt σ55 26)))) → (∃ kk59 nn60 : Nat, (kk56 = kk59 + 1 ∧ nn57 = nn60 + 6 ∧ ((∀ σ61 : AS, (σ61 = (sR (nA σ58 26 6) 13 39 0 (some (26, (cnt σ58 26)))) → (∃ kk62 nn63 : Nat, (kk59 = kk62 + 1 ∧ nn60 = nn63 + 6 ∧ ((∀ σ64 : AS, (σ64 = (sR (nA σ61 26 6) 13 40 0 (some (26, (cnt σ61 26)))) → (∃ kk65 nn66 : Nat, (kk62 = kk65 + 1 ∧ nn63 = nn66 + 6 ∧ ((∀ σ67 : AS, (σ67 = (sR (nA σ64 26 6) 13 41 0 (some (26, (cnt σ64 26)))) → (∃ kk68 nn69 : Nat, (kk65 = kk68 + 1 ∧ nn66 = nn69 + 6 ∧ ((∀ σ70 : AS, (σ70 = (sR (nA σ67 26 6) 13 42 0 (some (26, (cnt σ67 26)))) → (∃ kk71 nn72 : Nat, (kk68 = kk71 + 1 ∧ nn69 = nn72 + 40 ∧ ((∀ σ73 : AS, (σ73 = (sR (nA σ70 26 40) 13 43 0 (some (26, (cnt σ70 26)))) → (∃ kk74 nn75 : Nat, (kk71 = kk74 + 1 ∧ nn72 = nn75 + 40 ∧ ((∀ σ76 : AS, (σ76 = (sR (nA σ73 21 40) 13 44 0 (some (21, (cnt σ73 21)))) → (∃ kk77 nn78 : Nat, (kk74 = kk77 + 1 ∧ nn75 = nn78 + 6 ∧ ((∀ σ79 : AS, (σ79 = (sR (nA σ76 26 6) 13 45 0 (some (26, (cnt σ76 26)))) → (∃ kk80 nn81 : Nat, (kk77 = kk80 + 1 ∧ nn78 = nn81 + 40 ∧ ((∀ σ82 : AS, (σ82 = (sR (nA σ79 21 40) 13 46 0 (some (21, (cnt σ79 21)))) → (∃ kk83 nn84 : Nat, (kk80 = kk83 + 1 ∧ nn81 = nn84 + 40 ∧ ((∀ σ85 : AS, (σ85 = (sR (nA σ82 26 40) 13 47 0 (some (26, (cnt σ82 26)))) → (∃ kk86 nn87 : Nat, (kk83 = kk86 + 1 ∧ nn84 = nn87 + 30 ∧ ((∀ σ88 : AS, (σ88 = (sR (nA σ85 26 30) 13 50 0 (some (26, (cnt σ85 26)))) → (∃ kk89 nn90 : Nat, (kk86 = kk89 + 1 ∧ nn87 = nn90 + 240 ∧ ((∀ σ91 : AS, (σ91 = (sR (nA σ88 26 240) 13 51 0 (some (26, (cnt σ88 26)))) → (∃ kk92 nn93 : Nat, (kk89 = kk92 + 1 ∧ nn90 = nn93 + 240 ∧ ((∀ σ94 : AS, (σ94 = (sR (nA σ91 26 240) 13 52 0 (some (26, (cnt σ91 26)))) → (∃ kk95 nn96 : Nat, (kk92 = kk95 + 1 ∧ nn93 = nn96 + 240 ∧ ((∀ σ97 : AS, (σ97 = (sR (nA σ94 26 240) 13 53 0 (some (26, (cnt σ94 26)))) → (∃ kk98 nn99 : Nat, (kk95 = kk98 + 1 ∧ nn96 = nn99 + 240 ∧ ((∀ σ100 : AS, (σ100 = (sR (nA σ97 21 240) 13 54 0 (some (21, (cnt σ97 21)))) → (∃ kk101 nn102 : Nat, (kk98 = kk101 + 1 ∧ nn99 = nn102 + 2400 ∧ ((∀ σ103 : AS, (σ103 = (sR (nA σ100 26 2400) 13 56 0 (some (26, (cnt σ100 26)))) → (∃ kk104 nn105 : Nat, (kk101 = kk104 + 1 ∧ nn102 = nn105 + 2400 ∧ ((∀ σ106 : AS, (σ106 = (sR (nA σ103 26 2400) 13 57 0 (some (26, (cnt σ103 26)))) → (∃ kk107 nn108 : Nat, (kk104 = kk107 + 1 ∧ nn105 = nn108 + 2400 ∧ ((∀ σ109 : AS, (σ109 = (sR (nA σ106 26 2400) 13 58 0 (some (26, (cnt σ106 26)))) → (∃ kk110 nn111 : Nat, (kk107 = kk110 + 1 ∧ nn108 = nn111 + 2400 ∧ ((∀ σ112 : AS, (σ112 = (sR (nA σ109 26 2400) 13 59 0 (some (26, (cnt σ109 26)))) → (∃ kk113 nn114 : Nat, (kk110 = kk113 + 1 ∧ nn111 = nn114 + 2400 ∧ ((∀ σ115 : AS, (σ115 = (sR (nA σ112 26 2400) 13 60 0 (some (26, (cnt σ112 26)))) → (∃ kk116 nn117 : Nat, (kk113 = kk116 + 1 ∧ nn114 = nn117 + 2400 ∧ ((∀ σ118 : AS, (σ118 = (sR (nA σ115 26 2400) 13 61 0 (some (26, (cnt σ115 26)))) → (∃ kk119 nn120 : Nat, (kk116 = kk119 + 1 ∧ nn117 = nn120 + 5 ∧ ((∀ σ121 : AS, (σ121 = (sR (nA σ118 26 5) 13 62 0 (some (26, (cnt σ118 26)))) → (∃ kk122 nn123 : Nat, (kk119 = kk122 + 1 ∧ nn120 = nn123 + 40 ∧ ((∀ σ124 : AS, (σ124 = (sR (nA σ121 21 40) 13 63 0 (some (21, (cnt σ121 21)))) → (∃ kk125 nn126 : Nat, (kk122 = kk125 + 1 ∧ nn123 = nn126 + 40 ∧ ((∀ σ127 : AS, (σ127 = (sR (nA σ124 26 40) 13 64 0 (some (26, (cnt σ124 26)))) → (∃ kk128 nn129 : Nat, (kk125 = kk128 + 1 ∧ nn126 = nn129 + 40 ∧ ((∀ σ130 : AS, (σ130 = (sR (nA σ127 26 40) 13 65 0 (some (26, (cnt σ127 26)))) → (∃ kk131 nn132 : Nat, (kk128 = kk131 + 1 ∧ nn129 = nn132 + 40 ∧ ((∀ σ133 : AS, (σ133 = (sR (nA σ130 26 40) 13 66 0 (some (26, (cnt σ130 26)))) → post none σ133))))))))))))))))))))))))))))))))))))))))))))))))))))))))))))))))))))))))))))))))))))))))))))))))))))))))))))))))))))))))))))))))))))))))))))))))))))))))))))))))))))))))))))))))))))))))))))))))))))))))))))))))))))))))))))))) : AW G l M_X12_init (d + 1) post σ kk nn 0 [some (xR (some (13, 0)))] [] := by
  refine aw_aload_n (i := 0) d_X12_init_0 rfl rfl ?_
  refine aw_objInit oi_RX12_7 d_X12_init_1 (Nat.le_of_ble_eq_true rfl) ?_
  refine aw_aload_n (i := 0) d_X12_init_4 rfl rfl ?_
  refine aw_bipush (x := 40) d_X12_init_5 (by decide) ?_
  obtain ⟨kk1, nn2, ek, en, h⟩ := h
  rw [ek, en]
  refine aw_newarr 26 (at0 := .int) (t := 0) (N := 40) (by decide) (by decide) rfl (Or.inl ⟨rfl, rfl⟩) ac_int d_X12_init_7 (by decide) (by decide) ?_
  refine aw_putR fl_RX12_13 (by decide) (fin_init (r := (RX12, TX12, 68)) rfl rfl rfl) d_X12_init_9 rfl (by decide) ?_
  have h := h _ rfl
  refine aw_aload_n (i := 0) d_X12_init_12 rfl rfl ?_
  refine aw_bipush (x := 40) d_X12_init_13 (by decide) ?_
  obtain ⟨kk4, nn5, ek, en, h⟩ := h
  rw [ek, en]
  refine aw_newarr 26 (at0 := .int) (t := 0) (N := 40) (by decide) (by decide) rfl (Or.inl ⟨rfl, rfl⟩) ac_int d_X12_init_15 (by decide) (by decide) ?_
  refine aw_putR fl_RX12_17 (by decide) (fin_init (r := (RX12, TX12, 68)) rfl rfl rfl) d_X12_init_17 rfl (by decide) ?_
  have h := h _ rfl
  refine aw_aload_n (i := 0) d_X12_init_20 rfl rfl ?_
  refine aw_bipush (x := 40) d_X12_init_21 (by decide) ?_
  obtain ⟨kk7, nn8, ek, en, h⟩ := h
  rw [ek, en]
  refine aw_newarr 26 (at0 := .int) (t := 0) (N := 40) (by decide) (by decide) rfl (Or.inl ⟨rfl, rfl⟩) ac_int d_X12_init_23 (by decide) (by decide) ?_
  refine aw_putR fl_RX12_20 (by decide) (fin_init (r := (RX12, TX12, 68)) rfl rfl rfl) d_X12_init_25 rfl (by decide) ?_
  have h := h _ rfl
  refine aw_aload_n (i := 0) d_X12_init_28 rfl rfl ?_
  refine aw_bipush (x := 40) d_X12_init_29 (by decide) ?_
  obtain ⟨kk10, nn11, ek, en, h⟩ := h
  rw [ek, en]
  refine aw_newarr 26 (at0 := .int) (t := 0) (N := 40) (by decide) (by decide) rfl (Or.inl ⟨rfl, rfl⟩) ac_int d_X12_init_31 (by decide) (by decide) ?_
  refine aw_putR fl_RX12_23 (by decide) (fin_init (r := (RX12, TX12, 68)) rfl rfl rfl) d_X12_init_33 rfl (by decide) ?_
  have h := h _ rfl
  refine aw_aload_n (i := 0) d_X12_init_36 rfl rfl ?_
  refine aw_bipush (x := 40) d_X12_init_37 (by decide) ?_
  obtain ⟨kk13, nn14, ek, en, h⟩ := h
  rw [ek, en]
  refine aw_newarr 26 (at0 := .int) (t := 0) (N := 40) (by decide) (by decide) rfl (Or.inl ⟨rfl, rfl⟩) ac_int d_X12_init_39 (by decide) (by decide) ?_
  refine aw_putR fl_RX12_26 (by decide) (fin_init (r := (RX12, TX12, 68)) rfl rfl rfl) d_X12_init_41 rfl (by decide) ?_
  have h := h _ rfl
  refine aw_aload_n (i := 0) d_X12_init_44 rfl rfl ?_
  refine aw_bipush (x := 40) d_X12_init_45 (by decide) ?_
  obtain ⟨kk16, nn17, ek, en, h⟩ := h
  rw [ek, en]
  refine aw_newarr 21 (at0 := .boolean) (t := 1) (N := 40) (by decide) (by decide) rfl (Or.inr (Or.inl ⟨rfl, rfl⟩)) ac_boolean d_X12_init_47 (by decide) (by decide) ?_
  refine aw_putR fl_RX12_29 (by decide) (fin_init (r := (RX12, TX12, 68)) rfl rfl rfl) d_X12_init_49 rfl (by decide) ?_
  have h := h _ rfl
  refine aw_aload_n (i := 0) d_X12_init_52 rfl rfl ?_
  refine aw_bipush (x := 40) d_X12_init_53 (by decide) ?_
  obtain ⟨kk19, nn20, ek, en, h⟩ := h
  rw [ek, en]
  refine aw_newarr 26 (at0 := .int) (t := 0) (N := 40) (by decide) (by decide) rfl (Or.inl ⟨rfl, rfl⟩) ac_int d_X12_init_55 (by decide) (by decide) ?_
  refine aw_putR fl_RX12_33 (by decide) (fin_init (r := (RX12, TX12, 68)) rfl rfl rfl) d_X12_init_57 rfl (by decide) ?_
  have h := h _ rfl
  refine aw_aload_n (i := 0) d_X12_init_60 rfl rfl ?_
  refine aw_bipush (x := 40) d_X12_init_61 (by decide) ?_
  obtain ⟨kk22, nn23, ek, en, h⟩ := h
  rw [ek, en]
  refine aw_newarr 26 (at0 := .int) (t := 0) (N := 40) (by decide) (by decide) rfl (Or.inl ⟨rfl, rfl⟩) ac_int d_X12_init_63 (by decide) (by decide) ?_
  refine aw_putR fl_RX12_36 (by decide) (fin_init (r := (RX12, TX12, 68)) rfl rfl rfl) d_X12_init_65 rfl (by decide) ?_
  have h := h _ rfl
  refine aw_aload_n (i := 0) d_X12_init_68 rfl rfl ?_
  refine aw_bipush (x := 40) d_X12_init_69 (by decide) ?_
  obtain ⟨kk25, nn26, ek, en, h⟩ := h
  rw [ek, en]
  refine aw_newarr 26 (at0 := .int) (t := 0) (N := 40) (by decide) (by decide) rfl (Or.inl ⟨rfl, rfl⟩) ac_int d_X12_init_71 (by decide) (by decide) ?_
  refine aw_putR fl_RX12_39 (by decide) (fin_init (r := (RX12, TX12, 68)) rfl rfl rfl) d_X12_init_73 rfl (by decide) ?_
  have h := h _ rfl
  refine aw_aload_n (i := 0) d_X12_init_76 rfl rfl ?_
  refine aw_sipush (x := 2600) d_X12_init_77 (by decide) ?_
  obtain ⟨kk28, nn29, ek, en, h⟩ := h
  rw [ek, en]
  refine aw_newarr 26 (at0 := .int) (t := 0) (N := 2600) (by decide) (by decide) rfl (Or.inl ⟨rfl, rfl⟩) ac_int d_X12_init_80 (by decide) (by decide) ?_
  refine aw_putR fl_RX12_42 (by decide) (fin_init (r := (RX12, TX12, 68)) rfl rfl rfl) d_X12_init_82 rfl (by decide) ?_
  have h := h _ rfl
  refine aw_aload_n (i := 0) d_X12_init_85 rfl rfl ?_
  refine aw_sipush (x := 2600) d_X12_init_86 (by decide) ?_
  obtain ⟨kk31, nn32, ek, en, h⟩ := h
  rw [ek, en]
  refine aw_newarr 26 (at0 := .int) (t := 0) (N := 2600) (by decide) (by decide) rfl (Or.inl ⟨rfl, rfl⟩) ac_int d_X12_init_89 (by decide) (by decide) ?_
  refine aw_putR fl_RX12_45 (by decide) (fin_init (r := (RX12, TX12, 68)) rfl rfl rfl) d_X12_init_91 rfl (by decide) ?_
  have h := h _ rfl
  refine aw_aload_n (i := 0) d_X12_init_94 rfl rfl ?_
  refine aw_sipush (x := 1000) d_X12_init_95 (by decide) ?_
  obtain ⟨kk34, nn35, ek, en, h⟩ := h
  rw [ek, en]
  refine aw_newarr 22 (at0 := .byte) (t := 2) (N := 1000) (by decide) (by decide) rfl (Or.inr (Or.inr (Or.inl ⟨rfl, rfl⟩))) ac_byte d_X12_init_98 (by decide) (by decide) ?_
  refine aw_putR fl_RX12_48 (by decide) (fin_init (r := (RX12, TX12, 68)) rfl rfl rfl) d_X12_init_100 rfl (by decide) ?_
  have h := h _ rfl
  refine aw_aload_n (i := 0) d_X12_init_103 rfl rfl ?_
  refine aw_iconst (x := -1) d_X12_init_104 (by decide) ?_
  refine aw_putI fl_RX12_52 (by decide) (fin_no (r := (RX12, TX12, 68)) rfl rfl) d_X12_init_105 rfl ⟨rfl, rfl⟩ ?_
  have h := h _ rfl
  refine aw_aload_n (i := 0) d_X12_init_108 rfl rfl ?_
  refine aw_sipush (x := 1000) d_X12_init_109 (by decide) ?_
  obtain ⟨kk38, nn39, ek, en, h⟩ := h
  rw [ek, en]
  refine aw_newarr 22 (at0 := .byte) (t := 2) (N := 1000) (by decide) (by decide) rfl (Or.inr (Or.inr (Or.inl ⟨rfl, rfl⟩))) ac_byte d_X12_init_112 (by decide) (by decide) ?_
  refine aw_putR fl_RX12_55 (by decide) (fin_init (r := (RX12, TX12, 68)) rfl rfl rfl) d_X12_init_114 rfl (by decide) ?_
  have h := h _ rfl
  refine aw_aload_n (i := 0) d_X12_init_117 rfl rfl ?_
  refine aw_bipush (x := 6) d_X12_init_118 (by decide) ?_
  obtain ⟨kk41, nn42, ek, en, h⟩ := h
  rw [ek, en]
  refine aw_newarr 26 (at0 := .int) (t := 0) (N := 6) (by decide) (by decide) rfl (Or.inl ⟨rfl, rfl⟩) ac_int d_X12_init_120 (by decide) (by decide) ?_
  refine aw_putR fl_RX12_58 (by decide) (fin_init (r := (RX12, TX12, 68)) rfl rfl rfl) d_X12_init_122 rfl (by decide) ?_
  have h := h _ rfl
  refine aw_aload_n (i := 0) d_X12_init_125 rfl rfl ?_
  refine aw_bipush (x := 6) d_X12_init_126 (by decide) ?_
  obtain ⟨kk44, nn45, ek, en, h⟩ := h
  rw [ek, en]
  refine aw_newarr 26 (at0 := .int) (t := 0) (N := 6) (by decide) (by decide) rfl (Or.inl ⟨rfl, rfl⟩) ac_int d_X12_init_128 (by decide) (by decide) ?_
  refine aw_putR fl_RX12_61 (by decide) (fin_init (r := (RX12, TX12, 68)) rfl rfl rfl) d_X12_init_130 rfl (by decide) ?_
  have h := h _ rfl
  refine aw_aload_n (i := 0) d_X12_init_133 rfl rfl ?_
  refine aw_bipush (x := 6) d_X12_init_134 (by decide) ?_
  obtain ⟨kk47, nn48, ek, en, h⟩ := h
  rw [ek, en]
  refine aw_newarr 26 (at0 := .int) (t := 0) (N := 6) (by decide) (by decide) rfl (Or.inl ⟨rfl, rfl⟩) ac_int d_X12_init_136 (by decide) (by decide) ?_
  refine aw_putR fl_RX12_64 (by decide) (fin_init (r := (RX12, TX12, 68)) rfl rfl rfl) d_X12_init_138 rfl (by decide) ?_
  have h := h _ rfl
  refine aw_aload_n (i := 0) d_X12_init_141 rfl rfl ?_
  refine aw_bipush (x := 6) d_X12_init_142 (by decide) ?_
  obtain ⟨kk50, nn51, ek, en, h⟩ := h
  rw [ek, en]
  refine aw_newarr 26 (at0 := .int) (t := 0) (N := 6) (by decide) (by decide) rfl (Or.inl ⟨rfl, rfl⟩) ac_int d_X12_init_144 (by decide) (by decide) ?_
  refine aw_putR fl_RX12_67 (by decide) (fin_init (r := (RX12, TX12, 68)) rfl rfl rfl) d_X12_init_146 rfl (by decide) ?_
  have h := h _ rfl
  refine aw_aload_n (i := 0) d_X12_init_149 rfl rfl ?_
  refine aw_bipush (x := 6) d_X12_init_150 (by decide) ?_
  obtain ⟨kk53, nn54, ek, en, h⟩ := h
  rw [ek, en]
  refine aw_newarr 26 (at0 := .int) (t := 0) (N := 6) (by decide) (by decide) rfl (Or.inl ⟨rfl, rfl⟩) ac_int d_X12_init_152 (by decide) (by decide) ?_
  refine aw_putR fl_RX12_70 (by decide) (fin_init (r := (RX12, TX12, 68)) rfl rfl rfl) d_X12_init_154 rfl (by decide) ?_
  have h := h _ rfl
  refine aw_aload_n (i := 0) d_X12_init_157 rfl rfl ?_
  refine aw_bipush (x := 6) d_X12_init_158 (by decide) ?_
  obtain ⟨kk56, nn57, ek, en, h⟩ := h
  rw [ek, en]
  refine aw_newarr 26 (at0 := .int) (t := 0) (N := 6) (by decide) (by decide) rfl (Or.inl ⟨rfl, rfl⟩) ac_int d_X12_init_160 (by decide) (by decide) ?_
  refine aw_putR fl_RX12_73 (by decide) (fin_init (r := (RX12, TX12, 68)) rfl rfl rfl) d_X12_init_162 rfl (by decide) ?_
  have h := h _ rfl
  refine aw_aload_n (i := 0) d_X12_init_165 rfl rfl ?_
  refine aw_bipush (x := 6) d_X12_init_166 (by decide) ?_
  obtain ⟨kk59, nn60, ek, en, h⟩ := h
  rw [ek, en]
  refine aw_newarr 26 (at0 := .int) (t := 0) (N := 6) (by decide) (by decide) rfl (Or.inl ⟨rfl, rfl⟩) ac_int d_X12_init_168 (by decide) (by decide) ?_
  refine aw_putR fl_RX12_76 (by decide) (fin_init (r := (RX12, TX12, 68)) rfl rfl rfl) d_X12_init_170 rfl (by decide) ?_
  have h := h _ rfl
  refine aw_aload_n (i := 0) d_X12_init_173 rfl rfl ?_
  refine aw_bipush (x := 6) d_X12_init_174 (by decide) ?_
  obtain ⟨kk62, nn63, ek, en, h⟩ := h
  rw [ek, en]
  refine aw_newarr 26 (at0 := .int) (t := 0) (N := 6) (by decide) (by decide) rfl (Or.inl ⟨rfl, rfl⟩) ac_int d_X12_init_176 (by decide) (by decide) ?_
  refine aw_putR fl_RX12_79 (by decide) (fin_init (r := (RX12, TX12, 68)) rfl rfl rfl) d_X12_init_178 rfl (by decide) ?_
  have h := h _ rfl
  refine aw_aload_n (i := 0) d_X12_init_181 rfl rfl ?_
  refine aw_bipush (x := 6) d_X12_init_182 (by decide) ?_
  obtain ⟨kk65, nn66, ek, en, h⟩ := h
  rw [ek, en]
  refine aw_newarr 26 (at0 := .int) (t := 0) (N := 6) (by decide) (by decide) rfl (Or.inl ⟨rfl, rfl⟩) ac_int d_X12_init_184 (by decide) (by decide) ?_
  refine aw_putR fl_RX12_82 (by decide) (fin_init (r := (RX12, TX12, 68)) rfl rfl rfl) d_X12_init_186 rfl (by decide) ?_
  have h := h _ rfl
  refine aw_aload_n (i := 0) d_X12_init_189 rfl rfl ?_
  refine aw_bipush (x := 6) d_X12_init_190 (by decide) ?_
  obtain ⟨kk68, nn69, ek, en, h⟩ := h
  rw [ek, en]
  refine aw_newarr 26 (at0 := .int) (t := 0) (N := 6) (by decide) (by decide) rfl (Or.inl ⟨rfl, rfl⟩) ac_int d_X12_init_192 (by decide) (by decide) ?_
  refine aw_putR fl_RX12_85 (by decide) (fin_init (r := (RX12, TX12, 68)) rfl rfl rfl) d_X12_init_194 rfl (by decide) ?_
  have h := h _ rfl
  refine aw_aload_n (i := 0) d_X12_init_197 rfl rfl ?_
  refine aw_bipush (x := 40) d_X12_init_198 (by decide) ?_
  obtain ⟨kk71, nn72, ek, en, h⟩ := h
  rw [ek, en]
  refine aw_newarr 26 (at0 := .int) (t := 0) (N := 40) (by decide) (by decide) rfl (Or.inl ⟨rfl, rfl⟩) ac_int d_X12_init_200 (by decide) (by decide) ?_
  refine aw_putR fl_RX12_88 (by decide) (fin_init (r := (RX12, TX12, 68)) rfl rfl rfl) d_X12_init_202 rfl (by decide) ?_
  have h := h _ rfl
  refine aw_aload_n (i := 0) d_X12_init_205 rfl rfl ?_
  refine aw_bipush (x := 40) d_X12_init_206 (by decide) ?_
  obtain ⟨kk74, nn75, ek, en, h⟩ := h
  rw [ek, en]
  refine aw_newarr 21 (at0 := .boolean) (t := 1) (N := 40) (by decide) (by decide) rfl (Or.inr (Or.inl ⟨rfl, rfl⟩)) ac_boolean d_X12_init_208 (by decide) (by decide) ?_
  refine aw_putR fl_RX12_91 (by decide) (fin_init (r := (RX12, TX12, 68)) rfl rfl rfl) d_X12_init_210 rfl (by decide) ?_
  have h := h _ rfl
  refine aw_aload_n (i := 0) d_X12_init_213 rfl rfl ?_
  refine aw_bipush (x := 6) d_X12_init_214 (by decide) ?_
  obtain ⟨kk77, nn78, ek, en, h⟩ := h
  rw [ek, en]
  refine aw_newarr 26 (at0 := .int) (t := 0) (N := 6) (by decide) (by decide) rfl (Or.inl ⟨rfl, rfl⟩) ac_int d_X12_init_216 (by decide) (by decide) ?_
  refine aw_putR fl_RX12_94 (by decide) (fin_init (r := (RX12, TX12, 68)) rfl rfl rfl) d_X12_init_218 rfl (by decide) ?_
  have h := h _ rfl
  refine aw_aload_n (i := 0) d_X12_init_221 rfl rfl ?_
  refine aw_bipush (x := 40) d_X12_init_222 (by decide) ?_
  obtain ⟨kk80, nn81, ek, en, h⟩ := h
  rw [ek, en]
  refine aw_newarr 21 (at0 := .boolean) (t := 1) (N := 40) (by decide) (by decide) rfl (Or.inr (Or.inl ⟨rfl, rfl⟩)) ac_boolean d_X12_init_224 (by decide) (by decide) ?_
  refine aw_putR fl_RX12_97 (by decide) (fin_init (r := (RX12, TX12, 68)) rfl rfl rfl) d_X12_init_226 rfl (by decide) ?_
  have h := h _ rfl
  refine aw_aload_n (i := 0) d_X12_init_229 rfl rfl ?_
  refine aw_bipush (x := 40) d_X12_init_230 (by decide) ?_
  obtain ⟨kk83, nn84, ek, en, h⟩ := h
  rw [ek, en]
  refine aw_newarr 26 (at0 := .int) (t := 0) (N := 40) (by decide) (by decide) rfl (Or.inl ⟨rfl, rfl⟩) ac_int d_X12_init_232 (by decide) (by decide) ?_
  refine aw_putR fl_RX12_100 (by decide) (fin_init (r := (RX12, TX12, 68)) rfl rfl rfl) d_X12_init_234 rfl (by decide) ?_
  have h := h _ rfl
  refine aw_aload_n (i := 0) d_X12_init_237 rfl rfl ?_
  refine aw_bipush (x := 30) d_X12_init_238 (by decide) ?_
  obtain ⟨kk86, nn87, ek, en, h⟩ := h
  rw [ek, en]
  refine aw_newarr 26 (at0 := .int) (t := 0) (N := 30) (by decide) (by decide) rfl (Or.inl ⟨rfl, rfl⟩) ac_int d_X12_init_240 (by decide) (by decide) ?_
  refine aw_putR fl_RX12_103 (by decide) (fin_init (r := (RX12, TX12, 68)) rfl rfl rfl) d_X12_init_242 rfl (by decide) ?_
  have h := h _ rfl
  refine aw_aload_n (i := 0) d_X12_init_245 rfl rfl ?_
  refine aw_sipush (x := 240) d_X12_init_246 (by decide) ?_
  obtain ⟨kk89, nn90, ek, en, h⟩ := h
  rw [ek, en]
  refine aw_newarr 26 (at0 := .int) (t := 0) (N := 240) (by decide) (by decide) rfl (Or.inl ⟨rfl, rfl⟩) ac_int d_X12_init_249 (by decide) (by decide) ?_
  refine aw_putR fl_RX12_106 (by decide) (fin_init (r := (RX12, TX12, 68)) rfl rfl rfl) d_X12_init_251 rfl (by decide) ?_
  have h := h _ rfl
  refine aw_aload_n (i := 0) d_X12_init_254 rfl rfl ?_
  refine aw_sipush (x := 240) d_X12_init_255 (by decide) ?_
  obtain ⟨kk92, nn93, ek, en, h⟩ := h
  rw [ek, en]
  refine aw_newarr 26 (at0 := .int) (t := 0) (N := 240) (by decide) (by decide) rfl (Or.inl ⟨rfl, rfl⟩) ac_int d_X12_init_258 (by decide) (by decide) ?_
  refine aw_putR fl_RX12_109 (by decide) (fin_init (r := (RX12, TX12, 68)) rfl rfl rfl) d_X12_init_260 rfl (by decide) ?_
  have h := h _ rfl
  refine aw_aload_n (i := 0) d_X12_init_263 rfl rfl ?_
  refine aw_sipush (x := 240) d_X12_init_264 (by decide) ?_
  obtain ⟨kk95, nn96, ek, en, h⟩ := h
  rw [ek, en]
  refine aw_newarr 26 (at0 := .int) (t := 0) (N := 240) (by decide) (by decide) rfl (Or.inl ⟨rfl, rfl⟩) ac_int d_X12_init_267 (by decide) (by decide) ?_
  refine aw_putR fl_RX12_112 (by decide) (fin_init (r := (RX12, TX12, 68)) rfl rfl rfl) d_X12_init_269 rfl (by decide) ?_
  have h := h _ rfl
  refine aw_aload_n (i := 0) d_X12_init_272 rfl rfl ?_
  refine aw_sipush (x := 240) d_X12_init_273 (by decide) ?_
  obtain ⟨kk98, nn99, ek, en, h⟩ := h
  rw [ek, en]
  refine aw_newarr 21 (at0 := .boolean) (t := 1) (N := 240) (by decide) (by decide) rfl (Or.inr (Or.inl ⟨rfl, rfl⟩)) ac_boolean d_X12_init_276 (by decide) (by decide) ?_
  refine aw_putR fl_RX12_115 (by decide) (fin_init (r := (RX12, TX12, 68)) rfl rfl rfl) d_X12_init_278 rfl (by decide) ?_
  have h := h _ rfl
  refine aw_aload_n (i := 0) d_X12_init_281 rfl rfl ?_
  refine aw_sipush (x := 2400) d_X12_init_282 (by decide) ?_
  obtain ⟨kk101, nn102, ek, en, h⟩ := h
  rw [ek, en]
  refine aw_newarr 26 (at0 := .int) (t := 0) (N := 2400) (by decide) (by decide) rfl (Or.inl ⟨rfl, rfl⟩) ac_int d_X12_init_285 (by decide) (by decide) ?_
  refine aw_putR fl_RX12_118 (by decide) (fin_init (r := (RX12, TX12, 68)) rfl rfl rfl) d_X12_init_287 rfl (by decide) ?_
  have h := h _ rfl
  refine aw_aload_n (i := 0) d_X12_init_290 rfl rfl ?_
  refine aw_sipush (x := 2400) d_X12_init_291 (by decide) ?_
  obtain ⟨kk104, nn105, ek, en, h⟩ := h
  rw [ek, en]
  refine aw_newarr 26 (at0 := .int) (t := 0) (N := 2400) (by decide) (by decide) rfl (Or.inl ⟨rfl, rfl⟩) ac_int d_X12_init_294 (by decide) (by decide) ?_
  refine aw_putR fl_RX12_121 (by decide) (fin_init (r := (RX12, TX12, 68)) rfl rfl rfl) d_X12_init_296 rfl (by decide) ?_
  have h := h _ rfl
  refine aw_aload_n (i := 0) d_X12_init_299 rfl rfl ?_
  refine aw_sipush (x := 2400) d_X12_init_300 (by decide) ?_
  obtain ⟨kk107, nn108, ek, en, h⟩ := h
  rw [ek, en]
  refine aw_newarr 26 (at0 := .int) (t := 0) (N := 2400) (by decide) (by decide) rfl (Or.inl ⟨rfl, rfl⟩) ac_int d_X12_init_303 (by decide) (by decide) ?_
  refine aw_putR fl_RX12_124 (by decide) (fin_init (r := (RX12, TX12, 68)) rfl rfl rfl) d_X12_init_305 rfl (by decide) ?_
  have h := h _ rfl
  refine aw_aload_n (i := 0) d_X12_init_308 rfl rfl ?_
  refine aw_sipush (x := 2400) d_X12_init_309 (by decide) ?_
  obtain ⟨kk110, nn111, ek, en, h⟩ := h
  rw [ek, en]
  refine aw_newarr 26 (at0 := .int) (t := 0) (N := 2400) (by decide) (by decide) rfl (Or.inl ⟨rfl, rfl⟩) ac_int d_X12_init_312 (by decide) (by decide) ?_
  refine aw_putR fl_RX12_127 (by decide) (fin_init (r := (RX12, TX12, 68)) rfl rfl rfl) d_X12_init_314 rfl (by decide) ?_
  have h := h _ rfl
  refine aw_aload_n (i := 0) d_X12_init_317 rfl rfl ?_
  refine aw_sipush (x := 2400) d_X12_init_318 (by decide) ?_
  obtain ⟨kk113, nn114, ek, en, h⟩ := h
  rw [ek, en]
  refine aw_newarr 26 (at0 := .int) (t := 0) (N := 2400) (by decide) (by decide) rfl (Or.inl ⟨rfl, rfl⟩) ac_int d_X12_init_321 (by decide) (by decide) ?_
  refine aw_putR fl_RX12_130 (by decide) (fin_init (r := (RX12, TX12, 68)) rfl rfl rfl) d_X12_init_323 rfl (by decide) ?_
  have h := h _ rfl
  refine aw_aload_n (i := 0) d_X12_init_326 rfl rfl ?_
  refine aw_sipush (x := 2400) d_X12_init_327 (by decide) ?_
  obtain ⟨kk116, nn117, ek, en, h⟩ := h
  rw [ek, en]
  refine aw_newarr 26 (at0 := .int) (t := 0) (N := 2400) (by decide) (by decide) rfl (Or.inl ⟨rfl, rfl⟩) ac_int d_X12_init_330 (by decide) (by decide) ?_
  refine aw_putR fl_RX12_133 (by decide) (fin_init (r := (RX12, TX12, 68)) rfl rfl rfl) d_X12_init_332 rfl (by decide) ?_
  have h := h _ rfl
  refine aw_aload_n (i := 0) d_X12_init_335 rfl rfl ?_
  refine aw_iconst (x := 5) d_X12_init_336 (by decide) ?_
  obtain ⟨kk119, nn120, ek, en, h⟩ := h
  rw [ek, en]
  refine aw_newarr 26 (at0 := .int) (t := 0) (N := 5) (by decide) (by decide) rfl (Or.inl ⟨rfl, rfl⟩) ac_int d_X12_init_337 (by decide) (by decide) ?_
  refine aw_putR fl_RX12_136 (by decide) (fin_init (r := (RX12, TX12, 68)) rfl rfl rfl) d_X12_init_339 rfl (by decide) ?_
  have h := h _ rfl
  refine aw_aload_n (i := 0) d_X12_init_342 rfl rfl ?_
  refine aw_bipush (x := 40) d_X12_init_343 (by decide) ?_
  obtain ⟨kk122, nn123, ek, en, h⟩ := h
  rw [ek, en]
  refine aw_newarr 21 (at0 := .boolean) (t := 1) (N := 40) (by decide) (by decide) rfl (Or.inr (Or.inl ⟨rfl, rfl⟩)) ac_boolean d_X12_init_345 (by decide) (by decide) ?_
  refine aw_putR fl_RX12_139 (by decide) (fin_init (r := (RX12, TX12, 68)) rfl rfl rfl) d_X12_init_347 rfl (by decide) ?_
  have h := h _ rfl
  refine aw_aload_n (i := 0) d_X12_init_350 rfl rfl ?_
  refine aw_bipush (x := 40) d_X12_init_351 (by decide) ?_
  obtain ⟨kk125, nn126, ek, en, h⟩ := h
  rw [ek, en]
  refine aw_newarr 26 (at0 := .int) (t := 0) (N := 40) (by decide) (by decide) rfl (Or.inl ⟨rfl, rfl⟩) ac_int d_X12_init_353 (by decide) (by decide) ?_
  refine aw_putR fl_RX12_142 (by decide) (fin_init (r := (RX12, TX12, 68)) rfl rfl rfl) d_X12_init_355 rfl (by decide) ?_
  have h := h _ rfl
  refine aw_aload_n (i := 0) d_X12_init_358 rfl rfl ?_
  refine aw_bipush (x := 40) d_X12_init_359 (by decide) ?_
  obtain ⟨kk128, nn129, ek, en, h⟩ := h
  rw [ek, en]
  refine aw_newarr 26 (at0 := .int) (t := 0) (N := 40) (by decide) (by decide) rfl (Or.inl ⟨rfl, rfl⟩) ac_int d_X12_init_361 (by decide) (by decide) ?_
  refine aw_putR fl_RX12_145 (by decide) (fin_init (r := (RX12, TX12, 68)) rfl rfl rfl) d_X12_init_363 rfl (by decide) ?_
  have h := h _ rfl
  refine aw_aload_n (i := 0) d_X12_init_366 rfl rfl ?_
  refine aw_bipush (x := 40) d_X12_init_367 (by decide) ?_
  obtain ⟨kk131, nn132, ek, en, h⟩ := h
  rw [ek, en]
  refine aw_newarr 26 (at0 := .int) (t := 0) (N := 40) (by decide) (by decide) rfl (Or.inl ⟨rfl, rfl⟩) ac_int d_X12_init_369 (by decide) (by decide) ?_
  refine aw_putR fl_RX12_148 (by decide) (fin_init (r := (RX12, TX12, 68)) rfl rfl rfl) d_X12_init_371 rfl (by decide) ?_
  have h := h _ rfl
  exact aw_vret d_X12_init_374 rfl h
set_option maxRecDepth 20000 in
theorem vc_X12_person {G : GG} {l : Launch} {d : Nat} {post : Option AVal → AS → Prop} {σ : AS} {kk nn : Nat} {a1 : Int32} {a2 : Int32} {a3 : Int32} {a4 : Int32} {a5 : Int32} (h : ((((gI σ 13 1 0) = 40 → post (some (xI (-1))) (sI σ 13 0 0 0))) ∧ ((¬ (gI σ 13 1 0) = 40 → AMet G l M_X12_within d 0 0 [xI a1, xI 0, xI 99] (sI σ 13 0 0 0) (retI (fun x2 σ1 => (((x2 = 0 → post (some (xI (-1))) σ1)) ∧ ((¬ x2 = 0 → AMet G l M_X12_within d 0 0 [xI a2, xI 50, xI 230] σ1 (retI (fun x4 σ3 => (((x4 = 0 → post (some (xI (-1))) σ3)) ∧ ((¬ x4 = 0 → AMet G l M_X12_within d 0 0 [xI a3, xI 0, xI 65535] σ3 (retI (fun x6 σ5 => (((x6 = 0 → post (some (xI (-1))) σ5)) ∧ ((¬ x6 = 0 → AMet G l M_X12_within d 0 0 [xI a4, xI 0, xI 3] σ5 (retI (fun x8 σ7 => (((x8 = 0 → post (some (xI (-1))) σ7)) ∧ ((¬ x8 = 0 → AMet G l M_X12_within d 0 0 [xI a5, xI 1, xI 30] σ7 (retI (fun x10 σ9 => (St σ9 ∧ (((¬ x10 = 0 → (vp_in (gI σ9 13 1 0) 40 ∧ (vp_in (gI σ9 13 1 0) 40 ∧ (vp_in (gI σ9 13 1 0) 40 ∧ (vp_in (gI σ9 13 1 0) 40 ∧ (vp_in (gI σ9 13 1 0) 40 ∧ (vp_in (gI σ9 13 1 0) 40 ∧ post (some (xI (((gI σ9 13 1 0) + 1) - 1))) (sI (sA (sA (sA (sA (sA (sA σ9 26 0 (gI σ9 13 1 0).toNatClampNeg a1) 26 1 (gI σ9 13 1 0).toNatClampNeg a2) 26 2 (gI σ9 13 1 0).toNatClampNeg a3) 26 3 (gI σ9 13 1 0).toNatClampNeg a4) 26 4 (gI σ9 13 1 0).toNatClampNeg a5) 26 7 (gI σ9 13 1 0).toNatClampNeg (-1)) 13 1 0 ((gI σ9 13 1 0) + 1)))))))))) ∧ ((x10 = 0 → post (some (xI (-1))) σ9)))))))))))))))))))))))))))))) : AW G l M_X12_person (d + 1) post σ kk nn 0 [some (xR (some (13, 0))), some (xI a1), some (xI a2), some (xI a3), some (xI a4), some (xI a5)] [] := by
  refine aw_aload_n (i := 0) d_X12_person_0 rfl rfl ?_
  refine aw_iconst (x := 0) d_X12_person_1 (by decide) ?_
  refine aw_putI fl_RX12_1 (by decide) (fin_no (r := (RX12, TX12, 68)) rfl rfl) d_X12_person_2 rfl ⟨rfl, rfl⟩ ?_
  refine aw_aload_n (i := 0) d_X12_person_5 rfl rfl ?_
  refine aw_getIv fl_RX12_151 rfl (x := gI σ 13 1 0) rfl d_X12_person_6 ?_
  refine aw_bipush (x := 40) d_X12_person_9 (by decide) ?_
  refine aw_icmp_eq (tgt := 67) d_X12_person_11 (by decide) (fun c => ?_) (fun c => ?_)
  · have h := h.1 c
    refine aw_iconst (x := -1) d_X12_person_67 (by decide) ?_
    exact aw_ret d_X12_person_68 rfl rfl h
  · have h := h.2 c
    refine aw_iload_n (i := 1) d_X12_person_14 rfl rfl ?_
    refine aw_iconst (x := 0) d_X12_person_15 (by decide) ?_
    refine aw_bipush (x := 99) d_X12_person_16 (by decide) ?_
    refine aw_callS0 (as := [xI a1, xI 0, xI 99]) mw_X12_within ml_RX12_154 rfl d_X12_person_18 rfl (Nat.le_of_ble_eq_true rfl) (AMet.mono h (aw_toI (fun x2 σ1 h => ?_)))
    refine aw_if_eq (tgt := 67) d_X12_person_21 (by decide) (fun c => ?_) (fun c => ?_)
    · have h := h.1 c
      refine aw_iconst (x := -1) d_X12_person_67 (by decide) ?_
      exact aw_ret d_X12_person_68 rfl rfl h
    · have h := h.2 c
      refine aw_iload_n (i := 2) d_X12_person_24 rfl rfl ?_
      refine aw_bipush (x := 50) d_X12_person_25 (by decide) ?_
      refine aw_sipush (x := 230) d_X12_person_27 (by decide) ?_
      refine aw_callS0 (as := [xI a2, xI 50, xI 230]) mw_X12_within ml_RX12_154 rfl d_X12_person_30 rfl (Nat.le_of_ble_eq_true rfl) (AMet.mono h (aw_toI (fun x4 σ3 h => ?_)))
      refine aw_if_eq (tgt := 67) d_X12_person_33 (by decide) (fun c => ?_) (fun c => ?_)
      · have h := h.1 c
        refine aw_iconst (x := -1) d_X12_person_67 (by decide) ?_
        exact aw_ret d_X12_person_68 rfl rfl h
      · have h := h.2 c
        refine aw_iload_n (i := 3) d_X12_person_36 rfl rfl ?_
        refine aw_iconst (x := 0) d_X12_person_37 (by decide) ?_
        refine aw_ldcI (x := 65535) d_X12_person_38 ct_RX12_158 ?_
        refine aw_callS0 (as := [xI a3, xI 0, xI 65535]) mw_X12_within ml_RX12_154 rfl d_X12_person_40 rfl (Nat.le_of_ble_eq_true rfl) (AMet.mono h (aw_toI (fun x6 σ5 h => ?_)))
        refine aw_if_eq (tgt := 67) d_X12_person_43 (by decide) (fun c => ?_) (fun c => ?_)
        · have h := h.1 c
          refine aw_iconst (x := -1) d_X12_person_67 (by decide) ?_
          exact aw_ret d_X12_person_68 rfl rfl h
        · have h := h.2 c
          refine aw_iload (i := 4) d_X12_person_46 rfl ?_
          refine aw_iconst (x := 0) d_X12_person_48 (by decide) ?_
          refine aw_iconst (x := 3) d_X12_person_49 (by decide) ?_
          refine aw_callS0 (as := [xI a4, xI 0, xI 3]) mw_X12_within ml_RX12_154 rfl d_X12_person_50 rfl (Nat.le_of_ble_eq_true rfl) (AMet.mono h (aw_toI (fun x8 σ7 h => ?_)))
          refine aw_if_eq (tgt := 67) d_X12_person_53 (by decide) (fun c => ?_) (fun c => ?_)
          · have h := h.1 c
            refine aw_iconst (x := -1) d_X12_person_67 (by decide) ?_
            exact aw_ret d_X12_person_68 rfl rfl h
          · have h := h.2 c
            refine aw_iload (i := 5) d_X12_person_56 rfl ?_
            refine aw_iconst (x := 1) d_X12_person_58 (by decide) ?_
            refine aw_bipush (x := 30) d_X12_person_59 (by decide) ?_
            refine aw_callS0 (as := [xI a5, xI 1, xI 30]) mw_X12_within ml_RX12_154 rfl d_X12_person_61 rfl (Nat.le_of_ble_eq_true rfl) (AMet.mono h (aw_toI (fun x10 σ9 h => ?_)))
            obtain ⟨hS9, h⟩ := h
            refine aw_if_ne (tgt := 69) d_X12_person_64 (by decide) (fun c => ?_) (fun c => ?_)
            · have h := h.1 c
              refine aw_aload_n (i := 0) d_X12_person_69 rfl rfl ?_
              refine aw_getRv fl_RX12_13 rfl (r := some (26, 0)) (St.get hS9 13 3 0 26 0 (by decide)) d_X12_person_70 ?_
              refine aw_aload_n (i := 0) d_X12_person_73 rfl rfl ?_
              refine aw_getI fl_RX12_151 rfl d_X12_person_74 ?_
              refine aw_iload_n (i := 1) d_X12_person_77 rfl rfl ?_
              obtain ⟨hq, h⟩ := h
              refine aw_iast d_X12_person_78 (by decide) (vp_of (St.len hS9 26 0 40 (by decide)) hq) ?_
              refine aw_aload_n (i := 0) d_X12_person_79 rfl rfl ?_
              refine aw_getRv fl_RX12_17 rfl (r := some (26, 1)) (St.get (St.sA hS9) 13 4 0 26 1 (by decide)) d_X12_person_80 ?_
              refine aw_aload_n (i := 0) d_X12_person_83 rfl rfl ?_
              refine aw_getIv fl_RX12_151 rfl (x := gI σ9 13 1 0) rfl d_X12_person_84 ?_
              refine aw_iload_n (i := 2) d_X12_person_87 rfl rfl ?_
              obtain ⟨hq, h⟩ := h
              refine aw_iast d_X12_person_88 (by decide) (vp_of (St.len (St.sA hS9) 26 1 40 (by decide)) hq) ?_
              refine aw_aload_n (i := 0) d_X12_person_89 rfl rfl ?_
              refine aw_getRv fl_RX12_20 rfl (r := some (26, 2)) (St.get (St.sA (St.sA hS9)) 13 5 0 26 2 (by decide)) d_X12_person_90 ?_
              refine aw_aload_n (i := 0) d_X12_person_93 rfl rfl ?_
              refine aw_getIv fl_RX12_151 rfl (x := gI σ9 13 1 0) rfl d_X12_person_94 ?_
              refine aw_iload_n (i := 3) d_X12_person_97 rfl rfl ?_
              obtain ⟨hq, h⟩ := h
              refine aw_iast d_X12_person_98 (by decide) (vp_of (St.len (St.sA (St.sA hS9)) 26 2 40 (by decide)) hq) ?_
              refine aw_aload_n (i := 0) d_X12_person_99 rfl rfl ?_
              refine aw_getRv fl_RX12_23 rfl (r := some (26, 3)) (St.get (St.sA (St.sA (St.sA hS9))) 13 6 0 26 3 (by decide)) d_X12_person_100 ?_
              refine aw_aload_n (i := 0) d_X12_person_103 rfl rfl ?_
              refine aw_getIv fl_RX12_151 rfl (x := gI σ9 13 1 0) rfl d_X12_person_104 ?_
              refine aw_iload (i := 4) d_X12_person_107 rfl ?_
              obtain ⟨hq, h⟩ := h
              refine aw_iast d_X12_person_109 (by decide) (vp_of (St.len (St.sA (St.sA (St.sA hS9))) 26 3 40 (by decide)) hq) ?_
              refine aw_aload_n (i := 0) d_X12_person_110 rfl rfl ?_
              refine aw_getRv fl_RX12_26 rfl (r := some (26, 4)) (St.get (St.sA (St.sA (St.sA (St.sA hS9)))) 13 7 0 26 4 (by decide)) d_X12_person_111 ?_
              refine aw_aload_n (i := 0) d_X12_person_114 rfl rfl ?_
              refine aw_getIv fl_RX12_151 rfl (x := gI σ9 13 1 0) rfl d_X12_person_115 ?_
              refine aw_iload (i := 5) d_X12_person_118 rfl ?_
              obtain ⟨hq, h⟩ := h
              refine aw_iast d_X12_person_120 (by decide) (vp_of (St.len (St.sA (St.sA (St.sA (St.sA hS9)))) 26 4 40 (by decide)) hq) ?_
              refine aw_aload_n (i := 0) d_X12_person_121 rfl rfl ?_
              refine aw_getRv fl_RX12_39 rfl (r := some (26, 7)) (St.get (St.sA (St.sA (St.sA (St.sA (St.sA hS9))))) 13 11 0 26 7 (by decide)) d_X12_person_122 ?_
              refine aw_aload_n (i := 0) d_X12_person_125 rfl rfl ?_
              refine aw_getIv fl_RX12_151 rfl (x := gI σ9 13 1 0) rfl d_X12_person_126 ?_
              refine aw_iconst (x := -1) d_X12_person_129 (by decide) ?_
              obtain ⟨hq, h⟩ := h
              refine aw_iast d_X12_person_130 (by decide) (vp_of (St.len (St.sA (St.sA (St.sA (St.sA (St.sA hS9))))) 26 7 40 (by decide)) hq) ?_
              refine aw_aload_n (i := 0) d_X12_person_131 rfl rfl ?_
              refine aw_dupR d_X12_person_132 ?_
              refine aw_getIv fl_RX12_151 rfl (x := gI σ9 13 1 0) rfl d_X12_person_133 ?_
              refine aw_iconst (x := 1) d_X12_person_136 (by decide) ?_
              refine aw_iadd d_X12_person_137 ?_
              refine aw_putI fl_RX12_151 (by decide) (fin_no (r := (RX12, TX12, 68)) rfl rfl) d_X12_person_138 rfl ⟨rfl, rfl⟩ ?_
              refine aw_aload_n (i := 0) d_X12_person_141 rfl rfl ?_
              refine aw_getIv fl_RX12_151 rfl (x := ((gI σ9 13 1 0) + 1)) (gI_self (σ := (sA (sA (sA (sA (sA (sA σ9 26 0 (gI σ9 13 1 0).toNatClampNeg a1) 26 1 (gI σ9 13 1 0).toNatClampNeg a2) 26 2 (gI σ9 13 1 0).toNatClampNeg a3) 26 3 (gI σ9 13 1 0).toNatClampNeg a4) 26 4 (gI σ9 13 1 0).toNatClampNeg a5) 26 7 (gI σ9 13 1 0).toNatClampNeg (-1))) (c := 13) (f := 1) (i := 0) (v := ((gI σ9 13 1 0) + 1))) d_X12_person_142 ?_
              refine aw_iconst (x := 1) d_X12_person_145 (by decide) ?_
              refine aw_isub d_X12_person_146 ?_
              exact aw_ret d_X12_person_147 rfl rfl h
            · have h := h.2 c
              refine aw_iconst (x := -1) d_X12_person_67 (by decide) ?_
              exact aw_ret d_X12_person_68 rfl rfl h
set_option maxRecDepth 20000 in
theorem vc_X12_isPerson {G : GG} {l : Launch} {d : Nat} {post : Option AVal → AS → Prop} {σ : AS} {kk nn : Nat} {a1 : Int32} (h : (((a1 < 0 → post (some (xI 0)) σ)) ∧ ((¬ a1 < 0 → ((((gI σ 13 1 0) ≤ a1 → post (some (xI 0)) σ)) ∧ ((¬ (gI σ 13 1 0) ≤ a1 → post (some (xI 1)) σ))))))) : AW G l M_X12_isPerson d post σ kk nn 0 [some (xR (some (13, 0))), some (xI a1)] [] := by
  refine aw_iload_n (i := 1) d_X12_isPerson_0 rfl rfl ?_
  refine aw_if_lt (tgt := 16) d_X12_isPerson_1 (by decide) (fun c => ?_) (fun c => ?_)
  · have h := h.1 c
    refine aw_iconst (x := 0) d_X12_isPerson_16 (by decide) ?_
    exact aw_ret d_X12_isPerson_17 rfl (by decide) h
  · have h := h.2 c
    refine aw_iload_n (i := 1) d_X12_isPerson_4 rfl rfl ?_
    refine aw_aload_n (i := 0) d_X12_isPerson_5 rfl rfl ?_
    refine aw_getI fl_RX12_151 rfl d_X12_isPerson_6 ?_
    refine aw_icmp_ge (tgt := 16) d_X12_isPerson_9 (by decide) (fun c => ?_) (fun c => ?_)
    · have h := h.1 c
      refine aw_iconst (x := 0) d_X12_isPerson_16 (by decide) ?_
      exact aw_ret d_X12_isPerson_17 rfl (by decide) h
    · have h := h.2 c
      refine aw_iconst (x := 1) d_X12_isPerson_12 (by decide) ?_
      refine aw_goto (tgt := 17) d_X12_isPerson_13 (by decide) ?_
      exact aw_ret d_X12_isPerson_17 rfl (by decide) h
set_option maxRecDepth 20000 in
theorem vc_X12_away {G : GG} {l : Launch} {d : Nat} {post : Option AVal → AS → Prop} {σ : AS} {kk nn : Nat} {a1 : Int32} {a2 : Int32} (h : AMet G l M_X12_isPerson d 0 0 [xR (some (13, 0)), xI a1] (sI σ 13 0 0 0) (retI (fun x2 σ1 => (St σ1 ∧ (((x2 = 0 → post (some (xI 0)) σ1)) ∧ ((¬ x2 = 0 → (vp_in a1 40 ∧ ((((gA σ1 26 7 a1.toNatClampNeg) = (-1) → (vp_in a1 40 ∧ post (some (xI 1)) (sA σ1 21 0 a1.toNatClampNeg (vp_nar .boolean a2))))) ∧ ((¬ (gA σ1 26 7 a1.toNatClampNeg) = (-1) → post (some (xI 0)) σ1))))))))))) : AW G l M_X12_away (d + 1) post σ kk nn 0 [some (xR (some (13, 0))), some (xI a1), some (xI a2)] [] := by
  refine aw_aload_n (i := 0) d_X12_away_0 rfl rfl ?_
  refine aw_iconst (x := 0) d_X12_away_1 (by decide) ?_
  refine aw_putI fl_RX12_1 (by decide) (fin_no (r := (RX12, TX12, 68)) rfl rfl) d_X12_away_2 rfl ⟨rfl, rfl⟩ ?_
  refine aw_aload_n (i := 0) d_X12_away_5 rfl rfl ?_
  refine aw_iload_n (i := 1) d_X12_away_6 rfl rfl ?_
  refine aw_callV0 (as := [xI a1]) mw_X12_isPerson (by decide +kernel) ml_RX12_159 rfl d_X12_away_7 rfl (Nat.le_of_ble_eq_true rfl) (AMet.mono h (aw_toI (fun x2 σ1 h => ?_)))
  obtain ⟨hS1, h⟩ := h
  refine aw_if_eq (tgt := 23) d_X12_away_10 (by decide) (fun c => ?_) (fun c => ?_)
  · have h := h.1 c
    refine aw_iconst (x := 0) d_X12_away_23 (by decide) ?_
    exact aw_ret d_X12_away_24 rfl (by decide) h
  · have h := h.2 c
    refine aw_aload_n (i := 0) d_X12_away_13 rfl rfl ?_
    refine aw_getRv fl_RX12_39 rfl (r := some (26, 7)) (St.get hS1 13 11 0 26 7 (by decide)) d_X12_away_14 ?_
    refine aw_iload_n (i := 1) d_X12_away_17 rfl rfl ?_
    obtain ⟨hq, h⟩ := h
    refine aw_iald d_X12_away_18 (by decide) (vp_of (St.len hS1 26 7 40 (by decide)) hq) ?_
    refine aw_iconst (x := -1) d_X12_away_19 (by decide) ?_
    refine aw_icmp_eq (tgt := 25) d_X12_away_20 (by decide) (fun c => ?_) (fun c => ?_)
    · have h := h.1 c
      refine aw_aload_n (i := 0) d_X12_away_25 rfl rfl ?_
      refine aw_getRv fl_RX12_29 rfl (r := some (21, 0)) (St.get hS1 13 8 0 21 0 (by decide)) d_X12_away_26 ?_
      refine aw_iload_n (i := 1) d_X12_away_29 rfl rfl ?_
      refine aw_iload_n (i := 2) d_X12_away_30 rfl rfl ?_
      obtain ⟨hq, h⟩ := h
      refine aw_zast d_X12_away_31 (vp_of (St.len hS1 21 0 40 (by decide)) hq) ?_
      refine aw_iconst (x := 1) d_X12_away_32 (by decide) ?_
      exact aw_ret d_X12_away_33 rfl (by decide) h
    · have h := h.2 c
      refine aw_iconst (x := 0) d_X12_away_23 (by decide) ?_
      exact aw_ret d_X12_away_24 rfl (by decide) h
set_option maxRecDepth 20000 in
theorem vc_X12_about {G : GG} {l : Launch} {d : Nat} {post : Option AVal → AS → Prop} {σ : AS} {kk nn : Nat} {a1 : Int32} {a2 : Int32} (h : AMet G l M_X12_isPerson d 0 0 [xR (some (13, 0)), xI a1] (sI σ 13 0 0 0) (retI (fun x2 σ1 => (St σ1 ∧ (((¬ x2 = 0 → (((a2 = 0 → (vp_in a1 40 ∧ post (some (xI (gA σ1 26 0 a1.toNatClampNeg))) σ1))) ∧ ((a2 = 1 → (vp_in a1 40 ∧ post (some (xI (gA σ1 26 1 a1.toNatClampNeg))) σ1))) ∧ ((a2 = 2 → (vp_in a1 40 ∧ post (some (xI (gA σ1 26 2 a1.toNatClampNeg))) σ1))) ∧ ((a2 = 3 → (vp_in a1 40 ∧ post (some (xI (gA σ1 26 3 a1.toNatClampNeg))) σ1))) ∧ ((a2 = 4 → (vp_in a1 40 ∧ post (some (xI (gA σ1 26 4 a1.toNatClampNeg))) σ1))) ∧ ((a2 = 5 → (vp_in a1 40 ∧ ((((gA σ1 21 0 a1.toNatClampNeg) = 0 → post (some (xI 0)) σ1)) ∧ ((¬ (gA σ1 21 0 a1.toNatClampNeg) = 0 → post (some (xI 1)) σ1)))))) ∧ ((a2 = 6 → (vp_in a1 40 ∧ post (some (xI (gA σ1 26 5 a1.toNatClampNeg))) σ1))) ∧ ((a2 = 7 → (vp_in a1 40 ∧ post (some (xI (gA σ1 26 6 a1.toNatClampNeg))) σ1))) ∧ (((a2.toInt < 0 ∨ 7 < a2.toInt) → post (some (xI (-1))) σ1))))) ∧ ((x2 = 0 → post (some (xI (-1))) σ1))))))) : AW G l M_X12_about (d + 1) post σ kk nn 0 [some (xR (some (13, 0))), some (xI a1), some (xI a2)] [] := by
  refine aw_aload_n (i := 0) d_X12_about_0 rfl rfl ?_
  refine aw_iconst (x := 0) d_X12_about_1 (by decide) ?_
  refine aw_putI fl_RX12_1 (by decide) (fin_no (r := (RX12, TX12, 68)) rfl rfl) d_X12_about_2 rfl ⟨rfl, rfl⟩ ?_
  refine aw_aload_n (i := 0) d_X12_about_5 rfl rfl ?_
  refine aw_iload_n (i := 1) d_X12_about_6 rfl rfl ?_
  refine aw_callV0 (as := [xI a1]) mw_X12_isPerson (by decide +kernel) ml_RX12_159 rfl d_X12_about_7 rfl (Nat.le_of_ble_eq_true rfl) (AMet.mono h (aw_toI (fun x2 σ1 h => ?_)))
  obtain ⟨hS1, h⟩ := h
  refine aw_if_ne (tgt := 15) d_X12_about_10 (by decide) (fun c => ?_) (fun c => ?_)
  · have h := h.1 c
    refine aw_iload_n (i := 2) d_X12_about_15 rfl rfl ?_
    by_cases c0 : a2 = 0
    · have c := c0
      have h := h.1 c
      refine aw_sw (k := 0) (off := 48) (tgt := 64) d_X12_about_16 c (by decide) (by decide) (by decide) (by decide) ?_
      refine aw_aload_n (i := 0) d_X12_about_64 rfl rfl ?_
      refine aw_getRv fl_RX12_13 rfl (r := some (26, 0)) (St.get hS1 13 3 0 26 0 (by decide)) d_X12_about_65 ?_
      refine aw_iload_n (i := 1) d_X12_about_68 rfl rfl ?_
      obtain ⟨hq, h⟩ := h
      refine aw_iald d_X12_about_69 (by decide) (vp_of (St.len hS1 26 0 40 (by decide)) hq) ?_
      exact aw_ret d_X12_about_70 rfl rfl h
    by_cases c1 : a2 = 1
    · have c := c1
      have h := h.2.1 c
      refine aw_sw (k := 1) (off := 55) (tgt := 71) d_X12_about_16 c (by decide) (by decide) (by decide) (by decide) ?_
      refine aw_aload_n (i := 0) d_X12_about_71 rfl rfl ?_
      refine aw_getRv fl_RX12_17 rfl (r := some (26, 1)) (St.get hS1 13 4 0 26 1 (by decide)) d_X12_about_72 ?_
      refine aw_iload_n (i := 1) d_X12_about_75 rfl rfl ?_
      obtain ⟨hq, h⟩ := h
      refine aw_iald d_X12_about_76 (by decide) (vp_of (St.len hS1 26 1 40 (by decide)) hq) ?_
      exact aw_ret d_X12_about_77 rfl rfl h
    by_cases c2 : a2 = 2
    · have c := c2
      have h := h.2.2.1 c
      refine aw_sw (k := 2) (off := 62) (tgt := 78) d_X12_about_16 c (by decide) (by decide) (by decide) (by decide) ?_
      refine aw_aload_n (i := 0) d_X12_about_78 rfl rfl ?_
      refine aw_getRv fl_RX12_20 rfl (r := some (26, 2)) (St.get hS1 13 5 0 26 2 (by decide)) d_X12_about_79 ?_
      refine aw_iload_n (i := 1) d_X12_about_82 rfl rfl ?_
      obtain ⟨hq, h⟩ := h
      refine aw_iald d_X12_about_83 (by decide) (vp_of (St.len hS1 26 2 40 (by decide)) hq) ?_
      exact aw_ret d_X12_about_84 rfl rfl h
    by_cases c3 : a2 = 3
    · have c := c3
      have h := h.2.2.2.1 c
      refine aw_sw (k := 3) (off := 69) (tgt := 85) d_X12_about_16 c (by decide) (by decide) (by decide) (by decide) ?_
      refine aw_aload_n (i := 0) d_X12_about_85 rfl rfl ?_
      refine aw_getRv fl_RX12_23 rfl (r := some (26, 3)) (St.get hS1 13 6 0 26 3 (by decide)) d_X12_about_86 ?_
      refine aw_iload_n (i := 1) d_X12_about_89 rfl rfl ?_
      obtain ⟨hq, h⟩ := h
      refine aw_iald d_X12_about_90 (by decide) (vp_of (St.len hS1 26 3 40 (by decide)) hq) ?_
      exact aw_ret d_X12_about_91 rfl rfl h
    by_cases c4 : a2 = 4
    · have c := c4
      have h := h.2.2.2.2.1 c
      refine aw_sw (k := 4) (off := 76) (tgt := 92) d_X12_about_16 c (by decide) (by decide) (by decide) (by decide) ?_
      refine aw_aload_n (i := 0) d_X12_about_92 rfl rfl ?_
      refine aw_getRv fl_RX12_26 rfl (r := some (26, 4)) (St.get hS1 13 7 0 26 4 (by decide)) d_X12_about_93 ?_
      refine aw_iload_n (i := 1) d_X12_about_96 rfl rfl ?_
      obtain ⟨hq, h⟩ := h
      refine aw_iald d_X12_about_97 (by decide) (vp_of (St.len hS1 26 4 40 (by decide)) hq) ?_
      exact aw_ret d_X12_about_98 rfl rfl h
    by_cases c5 : a2 = 5
    · have c := c5
      have h := h.2.2.2.2.2.1 c
      refine aw_sw (k := 5) (off := 83) (tgt := 99) d_X12_about_16 c (by decide) (by decide) (by decide) (by decide) ?_
      refine aw_aload_n (i := 0) d_X12_about_99 rfl rfl ?_
      refine aw_getRv fl_RX12_29 rfl (r := some (21, 0)) (St.get hS1 13 8 0 21 0 (by decide)) d_X12_about_100 ?_
      refine aw_iload_n (i := 1) d_X12_about_103 rfl rfl ?_
      obtain ⟨hq, h⟩ := h
      refine aw_zald d_X12_about_104 (vp_of (St.len hS1 21 0 40 (by decide)) hq) ?_
      refine aw_if_eq (tgt := 112) d_X12_about_105 (by decide) (fun c => ?_) (fun c => ?_)
      · have h := h.1 c
        refine aw_iconst (x := 0) d_X12_about_112 (by decide) ?_
        exact aw_ret d_X12_about_113 rfl rfl h
      · have h := h.2 c
        refine aw_iconst (x := 1) d_X12_about_108 (by decide) ?_
        refine aw_goto (tgt := 113) d_X12_about_109 (by decide) ?_
        exact aw_ret d_X12_about_113 rfl rfl h
    by_cases c6 : a2 = 6
    · have c := c6
      have h := h.2.2.2.2.2.2.1 c
      refine aw_sw (k := 6) (off := 98) (tgt := 114) d_X12_about_16 c (by decide) (by decide) (by decide) (by decide) ?_
      refine aw_aload_n (i := 0) d_X12_about_114 rfl rfl ?_
      refine aw_getRv fl_RX12_33 rfl (r := some (26, 5)) (St.get hS1 13 9 0 26 5 (by decide)) d_X12_about_115 ?_
      refine aw_iload_n (i := 1) d_X12_about_118 rfl rfl ?_
      obtain ⟨hq, h⟩ := h
      refine aw_iald d_X12_about_119 (by decide) (vp_of (St.len hS1 26 5 40 (by decide)) hq) ?_
      exact aw_ret d_X12_about_120 rfl rfl h
    by_cases c7 : a2 = 7
    · have c := c7
      have h := h.2.2.2.2.2.2.2.1 c
      refine aw_sw (k := 7) (off := 105) (tgt := 121) d_X12_about_16 c (by decide) (by decide) (by decide) (by decide) ?_
      refine aw_aload_n (i := 0) d_X12_about_121 rfl rfl ?_
      refine aw_getRv fl_RX12_36 rfl (r := some (26, 6)) (St.get hS1 13 10 0 26 6 (by decide)) d_X12_about_122 ?_
      refine aw_iload_n (i := 1) d_X12_about_125 rfl rfl ?_
      obtain ⟨hq, h⟩ := h
      refine aw_iald d_X12_about_126 (by decide) (vp_of (St.len hS1 26 6 40 (by decide)) hq) ?_
      exact aw_ret d_X12_about_127 rfl rfl h
    have c : a2.toInt < 0 ∨ 7 < a2.toInt := by
      have q0 : ¬ a2.toInt = 0 := fun e => c0 (i32_eq (e.trans (by decide)))
      have q1 : ¬ a2.toInt = 1 := fun e => c1 (i32_eq (e.trans (by decide)))
      have q2 : ¬ a2.toInt = 2 := fun e => c2 (i32_eq (e.trans (by decide)))
      have q3 : ¬ a2.toInt = 3 := fun e => c3 (i32_eq (e.trans (by decide)))
      have q4 : ¬ a2.toInt = 4 := fun e => c4 (i32_eq (e.trans (by decide)))
      have q5 : ¬ a2.toInt = 5 := fun e => c5 (i32_eq (e.trans (by decide)))
      have q6 : ¬ a2.toInt = 6 := fun e => c6 (i32_eq (e.trans (by decide)))
      have q7 : ¬ a2.toInt = 7 := fun e => c7 (i32_eq (e.trans (by decide)))
      omega
    have h := h.2.2.2.2.2.2.2.2 c
    refine aw_switchOut (tgt := 128) d_X12_about_16 c (by decide) ?_
    refine aw_iconst (x := -1) d_X12_about_128 (by decide) ?_
    exact aw_ret d_X12_about_129 rfl rfl h
  · have h := h.2 c
    refine aw_iconst (x := -1) d_X12_about_13 (by decide) ?_
    exact aw_ret d_X12_about_14 rfl rfl h
set_option maxRecDepth 20000 in
theorem vc_X12_fact {G : GG} {l : Launch} {d : Nat} {post : Option AVal → AS → Prop} {σ : AS} {kk nn : Nat} {a1 : Int32} {a2 : Int32} (hS : St σ) (h : (vp_in (gI σ 13 12 0) 2600 ∧ (vp_in (gI σ 13 12 0) 2600 ∧ post (some (xI (((gI σ 13 12 0) + 1) - 1))) (sI (sA (sA σ 26 8 (gI σ 13 12 0).toNatClampNeg a1) 26 9 (gI σ 13 12 0).toNatClampNeg a2) 13 12 0 ((gI σ 13 12 0) + 1))))) : AW G l M_X12_fact d post σ kk nn 0 [some (xR (some (13, 0))), some (xI a1), some (xI a2)] [] := by
  refine aw_aload_n (i := 0) d_X12_fact_0 rfl rfl ?_
  refine aw_getRv fl_RX12_42 rfl (r := some (26, 8)) (St.get hS 13 14 0 26 8 (by decide)) d_X12_fact_1 ?_
  refine aw_aload_n (i := 0) d_X12_fact_4 rfl rfl ?_
  refine aw_getI fl_RX12_163 rfl d_X12_fact_5 ?_
  refine aw_iload_n (i := 1) d_X12_fact_8 rfl rfl ?_
  obtain ⟨hq, h⟩ := h
  refine aw_iast d_X12_fact_9 (by decide) (vp_of (St.len hS 26 8 2600 (by decide)) hq) ?_
  refine aw_aload_n (i := 0) d_X12_fact_10 rfl rfl ?_
  refine aw_getRv fl_RX12_45 rfl (r := some (26, 9)) (St.get (St.sA hS) 13 15 0 26 9 (by decide)) d_X12_fact_11 ?_
  refine aw_aload_n (i := 0) d_X12_fact_14 rfl rfl ?_
  refine aw_getIv fl_RX12_163 rfl (x := gI σ 13 12 0) rfl d_X12_fact_15 ?_
  refine aw_iload_n (i := 2) d_X12_fact_18 rfl rfl ?_
  obtain ⟨hq, h⟩ := h
  refine aw_iast d_X12_fact_19 (by decide) (vp_of (St.len (St.sA hS) 26 9 2600 (by decide)) hq) ?_
  refine aw_aload_n (i := 0) d_X12_fact_20 rfl rfl ?_
  refine aw_dupR d_X12_fact_21 ?_
  refine aw_getIv fl_RX12_163 rfl (x := gI σ 13 12 0) rfl d_X12_fact_22 ?_
  refine aw_iconst (x := 1) d_X12_fact_25 (by decide) ?_
  refine aw_iadd d_X12_fact_26 ?_
  refine aw_putI fl_RX12_163 (by decide) (fin_no (r := (RX12, TX12, 68)) rfl rfl) d_X12_fact_27 rfl ⟨rfl, rfl⟩ ?_
  refine aw_aload_n (i := 0) d_X12_fact_30 rfl rfl ?_
  refine aw_getIv fl_RX12_163 rfl (x := ((gI σ 13 12 0) + 1)) (gI_self (σ := (sA (sA σ 26 8 (gI σ 13 12 0).toNatClampNeg a1) 26 9 (gI σ 13 12 0).toNatClampNeg a2)) (c := 13) (f := 12) (i := 0) (v := ((gI σ 13 12 0) + 1))) d_X12_fact_31 ?_
  refine aw_iconst (x := 1) d_X12_fact_34 (by decide) ?_
  refine aw_isub d_X12_fact_35 ?_
  exact aw_ret d_X12_fact_36 rfl rfl h
set_option maxRecDepth 20000 in
theorem vc_X12_tell {G : GG} {l : Launch} {d : Nat} {post : Option AVal → AS → Prop} {σ : AS} {kk nn : Nat} {a1 : Int32} {a2 : Int32} (h : AMet G l M_X12_isPerson d 0 0 [xR (some (13, 0)), xI a1] (sI σ 13 0 0 0) (retI (fun x2 σ1 => (((x2 = 0 → post (some (xI (-1))) σ1)) ∧ ((¬ x2 = 0 → AMet G l M_X12_within d 0 0 [xI a2, xI 0, xI 19] σ1 (retI (fun x4 σ3 => (((x4 = 0 → post (some (xI (-1))) σ3)) ∧ ((¬ x4 = 0 → (((¬ (gI σ3 13 13 0) = 200 → AMet G l M_X12_fact d 0 0 [xR (some (13, 0)), xI a1, xI a2] (sI σ3 13 13 0 ((gI σ3 13 13 0) + 1)) (retI (fun x6 σ5 => post (some (xI x6)) σ5)))) ∧ (((gI σ3 13 13 0) = 200 → post (some (xI (-1))) σ3)))))))))))))) : AW G l M_X12_tell (d + 1) post σ kk nn 0 [some (xR (some (13, 0))), some (xI a1), some (xI a2)] [] := by
  refine aw_aload_n (i := 0) d_X12_tell_0 rfl rfl ?_
  refine aw_iconst (x := 0) d_X12_tell_1 (by decide) ?_
  refine aw_putI fl_RX12_1 (by decide) (fin_no (r := (RX12, TX12, 68)) rfl rfl) d_X12_tell_2 rfl ⟨rfl, rfl⟩ ?_
  refine aw_aload_n (i := 0) d_X12_tell_5 rfl rfl ?_
  refine aw_iload_n (i := 1) d_X12_tell_6 rfl rfl ?_
  refine aw_callV0 (as := [xI a1]) mw_X12_isPerson (by decide +kernel) ml_RX12_159 rfl d_X12_tell_7 rfl (Nat.le_of_ble_eq_true rfl) (AMet.mono h (aw_toI (fun x2 σ1 h => ?_)))
  refine aw_if_eq (tgt := 33) d_X12_tell_10 (by decide) (fun c => ?_) (fun c => ?_)
  · have h := h.1 c
    refine aw_iconst (x := -1) d_X12_tell_33 (by decide) ?_
    exact aw_ret d_X12_tell_34 rfl rfl h
  · have h := h.2 c
    refine aw_iload_n (i := 2) d_X12_tell_13 rfl rfl ?_
    refine aw_iconst (x := 0) d_X12_tell_14 (by decide) ?_
    refine aw_bipush (x := 19) d_X12_tell_15 (by decide) ?_
    refine aw_callS0 (as := [xI a2, xI 0, xI 19]) mw_X12_within ml_RX12_154 rfl d_X12_tell_17 rfl (Nat.le_of_ble_eq_true rfl) (AMet.mono h (aw_toI (fun x4 σ3 h => ?_)))
    refine aw_if_eq (tgt := 33) d_X12_tell_20 (by decide) (fun c => ?_) (fun c => ?_)
    · have h := h.1 c
      refine aw_iconst (x := -1) d_X12_tell_33 (by decide) ?_
      exact aw_ret d_X12_tell_34 rfl rfl h
    · have h := h.2 c
      refine aw_aload_n (i := 0) d_X12_tell_23 rfl rfl ?_
      refine aw_getI fl_RX12_166 rfl d_X12_tell_24 ?_
      refine aw_sipush (x := 200) d_X12_tell_27 (by decide) ?_
      refine aw_icmp_ne (tgt := 35) d_X12_tell_30 (by decide) (fun c => ?_) (fun c => ?_)
      · have h := h.1 c
        refine aw_aload_n (i := 0) d_X12_tell_35 rfl rfl ?_
        refine aw_dupR d_X12_tell_36 ?_
        refine aw_getI fl_RX12_166 rfl d_X12_tell_37 ?_
        refine aw_iconst (x := 1) d_X12_tell_40 (by decide) ?_
        refine aw_iadd d_X12_tell_41 ?_
        refine aw_putI fl_RX12_166 (by decide) (fin_no (r := (RX12, TX12, 68)) rfl rfl) d_X12_tell_42 rfl ⟨rfl, rfl⟩ ?_
        refine aw_aload_n (i := 0) d_X12_tell_45 rfl rfl ?_
        refine aw_iload_n (i := 1) d_X12_tell_46 rfl rfl ?_
        refine aw_iload_n (i := 2) d_X12_tell_47 rfl rfl ?_
        refine aw_callV0 (as := [xI a1, xI a2]) mw_X12_fact (by decide +kernel) ml_RX12_169 rfl d_X12_tell_48 rfl (Nat.le_of_ble_eq_true rfl) (AMet.mono h (aw_toI (fun x6 σ5 h => ?_)))
        exact aw_ret d_X12_tell_51 rfl rfl h
      · have h := h.2 c
        refine aw_iconst (x := -1) d_X12_tell_33 (by decide) ?_
        exact aw_ret d_X12_tell_34 rfl rfl h
set_option maxRecDepth 20000 in
theorem vc_X12_times {G : GG} {l : Launch} {d : Nat} {post : Option AVal → AS → Prop} {σ : AS} {kk nn : Nat} {a1 : Int32} {a2 : Int32} {a3 : Int32} (h : AW G l M_X12_times d post σ kk nn 6 [some (xR (some (13, 0))), some (xI a1), some (xI a2), some (xI a3), some (xI 0), some (xI 0)] []) : AW G l M_X12_times d post σ kk nn 0 [some (xR (some (13, 0))), some (xI a1), some (xI a2), some (xI a3), none, none] [] := by
  refine aw_iconst (x := 0) d_X12_times_0 (by decide) ?_
  refine aw_istore (i := 4) d_X12_times_1 (by decide) ?_
  refine aw_iconst (x := 0) d_X12_times_3 (by decide) ?_
  refine aw_istore (i := 5) d_X12_times_4 (by decide) ?_
  exact h
set_option maxRecDepth 20000 in
theorem vc_X12_times_6 {G : GG} {l : Launch} {d : Nat} {post : Option AVal → AS → Prop} {σ : AS} {kk nn : Nat} {v1 : Int32} {v2 : Int32} {v3 : Int32} {v4 : Int32} {v5 : Int32} (hS : St σ) (h : (((v3 ≤ v5 → post (some (xI v4)) σ)) ∧ ((¬ v3 ≤ v5 → (vp_in v5 2600 ∧ (((¬ (gA σ 26 8 v5.toNatClampNeg) = v1 → AW G l M_X12_times d post σ kk nn 6 [some (xR (some (13, 0))), some (xI v1), some (xI v2), some (xI v3), some (xI v4), some (xI (v5 + 1))] [])) ∧ (((gA σ 26 8 v5.toNatClampNeg) = v1 → (vp_in v5 2600 ∧ (((¬ (gA σ 26 9 v5.toNatClampNeg) = v2 → AW G l M_X12_times d post σ kk nn 6 [some (xR (some (13, 0))), some (xI v1), some (xI v2), some (xI v3), some (xI v4), some (xI (v5 + 1))] [])) ∧ (((gA σ 26 9 v5.toNatClampNeg) = v2 → AW G l M_X12_times d post σ kk nn 6 [some (xR (some (13, 0))), some (xI v1), some (xI v2), some (xI v3), some (xI (v4 + 1)), some (xI (v5 + 1))] [])))))))))))) : AW G l M_X12_times d post σ kk nn 6 [some (xR (some (13, 0))), some (xI v1), some (xI v2), some (xI v3), some (xI v4), some (xI v5)] [] := by
  refine aw_iload (i := 5) d_X12_times_6 rfl ?_
  refine aw_iload_n (i := 3) d_X12_times_8 rfl rfl ?_
  refine aw_icmp_ge (tgt := 43) d_X12_times_9 (by decide) (fun c => ?_) (fun c => ?_)
  · have h := h.1 c
    refine aw_iload (i := 4) d_X12_times_43 rfl ?_
    exact aw_ret d_X12_times_45 rfl rfl h
  · have h := h.2 c
    refine aw_aload_n (i := 0) d_X12_times_12 rfl rfl ?_
    refine aw_getRv fl_RX12_42 rfl (r := some (26, 8)) (St.get hS 13 14 0 26 8 (by decide)) d_X12_times_13 ?_
    refine aw_iload (i := 5) d_X12_times_16 rfl ?_
    obtain ⟨hq, h⟩ := h
    refine aw_iald d_X12_times_18 (by decide) (vp_of (St.len hS 26 8 2600 (by decide)) hq) ?_
    refine aw_iload_n (i := 1) d_X12_times_19 rfl rfl ?_
    refine aw_icmp_ne (tgt := 37) d_X12_times_20 (by decide) (fun c => ?_) (fun c => ?_)
    · have h := h.1 c
      refine aw_iinc (i := 5) (v := v5 + 1) d_X12_times_37 rfl rfl (by decide) ?_
      refine aw_goto (tgt := 6) d_X12_times_40 (by decide) ?_
      exact h
    · have h := h.2 c
      refine aw_aload_n (i := 0) d_X12_times_23 rfl rfl ?_
      refine aw_getRv fl_RX12_45 rfl (r := some (26, 9)) (St.get hS 13 15 0 26 9 (by decide)) d_X12_times_24 ?_
      refine aw_iload (i := 5) d_X12_times_27 rfl ?_
      obtain ⟨hq, h⟩ := h
      refine aw_iald d_X12_times_29 (by decide) (vp_of (St.len hS 26 9 2600 (by decide)) hq) ?_
      refine aw_iload_n (i := 2) d_X12_times_30 rfl rfl ?_
      refine aw_icmp_ne (tgt := 37) d_X12_times_31 (by decide) (fun c => ?_) (fun c => ?_)
      · have h := h.1 c
        refine aw_iinc (i := 5) (v := v5 + 1) d_X12_times_37 rfl rfl (by decide) ?_
        refine aw_goto (tgt := 6) d_X12_times_40 (by decide) ?_
        exact h
      · have h := h.2 c
        refine aw_iinc (i := 4) (v := v4 + 1) d_X12_times_34 rfl rfl (by decide) ?_
        refine aw_iinc (i := 5) (v := v5 + 1) d_X12_times_37 rfl rfl (by decide) ?_
        refine aw_goto (tgt := 6) d_X12_times_40 (by decide) ?_
        exact h
set_option maxRecDepth 20000 in
theorem vc_X12_seen {G : GG} {l : Launch} {d : Nat} {post : Option AVal → AS → Prop} {σ : AS} {kk nn : Nat} {a1 : Int32} {a2 : Int32} {a3 : Int32} (h : AMet G l M_X12_isPerson d 0 0 [xR (some (13, 0)), xI a1] σ (retI (fun x2 σ1 => (((x2 = 0 → post (some (xI 0)) (sI σ1 13 0 0 1))) ∧ ((¬ x2 = 0 → AMet G l M_X12_within d 0 0 [xI a2, xI 0, xI 19] σ1 (retI (fun x4 σ3 => (((x4 = 0 → post (some (xI 0)) (sI σ3 13 0 0 1))) ∧ ((¬ x4 = 0 → AMet G l M_X12_within d 0 0 [xI a3, xI 0, xI (gI σ3 13 12 0)] σ3 (retI (fun x6 σ5 => (((x6 = 0 → post (some (xI 0)) (sI σ5 13 0 0 1))) ∧ ((¬ x6 = 0 → AMet G l M_X12_times d 0 0 [xR (some (13, 0)), xI a1, xI a2, xI a3] (sI σ5 13 0 0 0) (retI (fun x8 σ7 => post (some (xI x8)) σ7)))))))))))))))))) : AW G l M_X12_seen (d + 1) post σ kk nn 0 [some (xR (some (13, 0))), some (xI a1), some (xI a2), some (xI a3)] [] := by
  refine aw_aload_n (i := 0) d_X12_seen_0 rfl rfl ?_
  refine aw_aload_n (i := 0) d_X12_seen_1 rfl rfl ?_
  refine aw_iload_n (i := 1) d_X12_seen_2 rfl rfl ?_
  refine aw_callV0 (as := [xI a1]) mw_X12_isPerson (by decide +kernel) ml_RX12_159 rfl d_X12_seen_3 rfl (Nat.le_of_ble_eq_true rfl) (AMet.mono h (aw_toI (fun x2 σ1 h => ?_)))
  refine aw_if_eq (tgt := 35) d_X12_seen_6 (by decide) (fun c => ?_) (fun c => ?_)
  · have h := h.1 c
    refine aw_iconst (x := 1) d_X12_seen_35 (by decide) ?_
    refine aw_putI fl_RX12_1 (by decide) (fin_no (r := (RX12, TX12, 68)) rfl rfl) d_X12_seen_36 rfl ⟨rfl, rfl⟩ ?_
    refine aw_aload_n (i := 0) d_X12_seen_39 rfl rfl ?_
    refine aw_getIv fl_RX12_1 rfl (x := 1) (gI_self (σ := σ1) (c := 13) (f := 0) (i := 0) (v := 1)) d_X12_seen_40 ?_
    refine aw_if_le (tgt := 50) d_X12_seen_43 (by decide) (fun c => absurd c (by decide)) (fun _ => ?_)
    refine aw_iconst (x := 0) d_X12_seen_46 (by decide) ?_
    refine aw_goto (tgt := 57) d_X12_seen_47 (by decide) ?_
    exact aw_ret d_X12_seen_57 rfl rfl h
  · have h := h.2 c
    refine aw_iload_n (i := 2) d_X12_seen_9 rfl rfl ?_
    refine aw_iconst (x := 0) d_X12_seen_10 (by decide) ?_
    refine aw_bipush (x := 19) d_X12_seen_11 (by decide) ?_
    refine aw_callS0 (as := [xI a2, xI 0, xI 19]) mw_X12_within ml_RX12_154 rfl d_X12_seen_13 rfl (Nat.le_of_ble_eq_true rfl) (AMet.mono h (aw_toI (fun x4 σ3 h => ?_)))
    refine aw_if_eq (tgt := 35) d_X12_seen_16 (by decide) (fun c => ?_) (fun c => ?_)
    · have h := h.1 c
      refine aw_iconst (x := 1) d_X12_seen_35 (by decide) ?_
      refine aw_putI fl_RX12_1 (by decide) (fin_no (r := (RX12, TX12, 68)) rfl rfl) d_X12_seen_36 rfl ⟨rfl, rfl⟩ ?_
      refine aw_aload_n (i := 0) d_X12_seen_39 rfl rfl ?_
      refine aw_getIv fl_RX12_1 rfl (x := 1) (gI_self (σ := σ3) (c := 13) (f := 0) (i := 0) (v := 1)) d_X12_seen_40 ?_
      refine aw_if_le (tgt := 50) d_X12_seen_43 (by decide) (fun c => absurd c (by decide)) (fun _ => ?_)
      refine aw_iconst (x := 0) d_X12_seen_46 (by decide) ?_
      refine aw_goto (tgt := 57) d_X12_seen_47 (by decide) ?_
      exact aw_ret d_X12_seen_57 rfl rfl h
    · have h := h.2 c
      refine aw_iload_n (i := 3) d_X12_seen_19 rfl rfl ?_
      refine aw_iconst (x := 0) d_X12_seen_20 (by decide) ?_
      refine aw_aload_n (i := 0) d_X12_seen_21 rfl rfl ?_
      refine aw_getI fl_RX12_163 rfl d_X12_seen_22 ?_
      refine aw_callS0 (as := [xI a3, xI 0, xI (gI σ3 13 12 0)]) mw_X12_within ml_RX12_154 rfl d_X12_seen_25 rfl (Nat.le_of_ble_eq_true rfl) (AMet.mono h (aw_toI (fun x6 σ5 h => ?_)))
      refine aw_if_eq (tgt := 35) d_X12_seen_28 (by decide) (fun c => ?_) (fun c => ?_)
      · have h := h.1 c
        refine aw_iconst (x := 1) d_X12_seen_35 (by decide) ?_
        refine aw_putI fl_RX12_1 (by decide) (fin_no (r := (RX12, TX12, 68)) rfl rfl) d_X12_seen_36 rfl ⟨rfl, rfl⟩ ?_
        refine aw_aload_n (i := 0) d_X12_seen_39 rfl rfl ?_
        refine aw_getIv fl_RX12_1 rfl (x := 1) (gI_self (σ := σ5) (c := 13) (f := 0) (i := 0) (v := 1)) d_X12_seen_40 ?_
        refine aw_if_le (tgt := 50) d_X12_seen_43 (by decide) (fun c => absurd c (by decide)) (fun _ => ?_)
        refine aw_iconst (x := 0) d_X12_seen_46 (by decide) ?_
        refine aw_goto (tgt := 57) d_X12_seen_47 (by decide) ?_
        exact aw_ret d_X12_seen_57 rfl rfl h
      · have h := h.2 c
        refine aw_iconst (x := 0) d_X12_seen_31 (by decide) ?_
        refine aw_goto (tgt := 36) d_X12_seen_32 (by decide) ?_
        refine aw_putI fl_RX12_1 (by decide) (fin_no (r := (RX12, TX12, 68)) rfl rfl) d_X12_seen_36 rfl ⟨rfl, rfl⟩ ?_
        refine aw_aload_n (i := 0) d_X12_seen_39 rfl rfl ?_
        refine aw_getIv fl_RX12_1 rfl (x := 0) (gI_self (σ := σ5) (c := 13) (f := 0) (i := 0) (v := 0)) d_X12_seen_40 ?_
        refine aw_if_le (tgt := 50) d_X12_seen_43 (by decide) (fun _ => ?_) (fun c => absurd c (by decide))
        refine aw_aload_n (i := 0) d_X12_seen_50 rfl rfl ?_
        refine aw_iload_n (i := 1) d_X12_seen_51 rfl rfl ?_
        refine aw_iload_n (i := 2) d_X12_seen_52 rfl rfl ?_
        refine aw_iload_n (i := 3) d_X12_seen_53 rfl rfl ?_
        refine aw_callV0 (as := [xI a1, xI a2, xI a3]) mw_X12_times (by decide +kernel) ml_RX12_173 rfl d_X12_seen_54 rfl (Nat.le_of_ble_eq_true rfl) (AMet.mono h (aw_toI (fun x8 σ7 h => ?_)))
        exact aw_ret d_X12_seen_57 rfl rfl h
set_option maxRecDepth 20000 in
theorem vc_X12_feed {G : GG} {l : Launch} {d : Nat} {post : Option AVal → AS → Prop} {σ : AS} {kk nn : Nat} {a1 : Int32} {a2 : Int32} {a3 : Int32} {a4 : Int32} {a5 : Int32} (h : (((((gI σ 13 17 0) + 20) ≤ 1000 → AW G l M_X12_feed d post (sI σ 13 0 0 0) kk nn 23 [some (xR (some (13, 0))), some (xI a1), some (xI a2), some (xI a3), some (xI a4), some (xI a5), some (xI 0), none] [])) ∧ ((¬ ((gI σ 13 17 0) + 20) ≤ 1000 → post (some (xI (-1))) (sI σ 13 0 0 0))))) : AW G l M_X12_feed d post σ kk nn 0 [some (xR (some (13, 0))), some (xI a1), some (xI a2), some (xI a3), some (xI a4), some (xI a5), none, none] [] := by
  refine aw_aload_n (i := 0) d_X12_feed_0 rfl rfl ?_
  refine aw_iconst (x := 0) d_X12_feed_1 (by decide) ?_
  refine aw_putI fl_RX12_1 (by decide) (fin_no (r := (RX12, TX12, 68)) rfl rfl) d_X12_feed_2 rfl ⟨rfl, rfl⟩ ?_
  refine aw_aload_n (i := 0) d_X12_feed_5 rfl rfl ?_
  refine aw_getIv fl_RX12_177 rfl (x := gI σ 13 17 0) rfl d_X12_feed_6 ?_
  refine aw_bipush (x := 20) d_X12_feed_9 (by decide) ?_
  refine aw_iadd d_X12_feed_11 ?_
  refine aw_sipush (x := 1000) d_X12_feed_12 (by decide) ?_
  refine aw_icmp_le (tgt := 20) d_X12_feed_15 (by decide) (fun c => ?_) (fun c => ?_)
  · have h := h.1 c
    refine aw_iconst (x := 0) d_X12_feed_20 (by decide) ?_
    refine aw_istore (i := 6) d_X12_feed_21 (by decide) ?_
    exact h
  · have h := h.2 c
    refine aw_iconst (x := -1) d_X12_feed_18 (by decide) ?_
    exact aw_ret d_X12_feed_19 rfl rfl h
set_option maxRecDepth 20000 in
theorem vc_X12_feed_23 {G : GG} {l : Launch} {d : Nat} {post : Option AVal → AS → Prop} {σ : AS} {kk nn : Nat} {v1 : Int32} {v2 : Int32} {v3 : Int32} {v4 : Int32} {v5 : Int32} {v6 : Int32} (hS : St σ) (h : (((20 ≤ v6 → post (some (xI (gI σ 13 17 0))) σ)) ∧ ((¬ 20 ≤ v6 → (((4 ≤ v6 → (((8 ≤ v6 → (((12 ≤ v6 → (((16 ≤ v6 → (vp_in (gI σ 13 17 0) 1000 ∧ AW G l M_X12_feed d post (sI (sA σ 22 0 (gI σ 13 17 0).toNatClampNeg (vp_nar .byte ((v5 >>> ((24 - (8 * (v6 - v6 / 4 * 4))) &&& 31)).toInt8.toInt32))) 13 17 0 ((gI σ 13 17 0) + 1)) kk nn 23 [some (xR (some (13, 0))), some (xI v1), some (xI v2), some (xI v3), some (xI v4), some (xI v5), some (xI (v6 + 1)), none] []))) ∧ ((¬ 16 ≤ v6 → (vp_in (gI σ 13 17 0) 1000 ∧ AW G l M_X12_feed d post (sI (sA σ 22 0 (gI σ 13 17 0).toNatClampNeg (vp_nar .byte ((v4 >>> ((24 - (8 * (v6 - v6 / 4 * 4))) &&& 31)).toInt8.toInt32))) 13 17 0 ((gI σ 13 17 0) + 1)) kk nn 23 [some (xR (some (13, 0))), some (xI v1), some (xI v2), some (xI v3), some (xI v4), some (xI v5), some (xI (v6 + 1)), none] [])))))) ∧ ((¬ 12 ≤ v6 → (vp_in (gI σ 13 17 0) 1000 ∧ AW G l M_X12_feed d post (sI (sA σ 22 0 (gI σ 13 17 0).toNatClampNeg (vp_nar .byte ((v3 >>> ((24 - (8 * (v6 - v6 / 4 * 4))) &&& 31)).toInt8.toInt32))) 13 17 0 ((gI σ 13 17 0) + 1)) kk nn 23 [some (xR (some (13, 0))), some (xI v1), some (xI v2), some (xI v3), some (xI v4), some (xI v5), some (xI (v6 + 1)), none] [])))))) ∧ ((¬ 8 ≤ v6 → (vp_in (gI σ 13 17 0) 1000 ∧ AW G l M_X12_feed d post (sI (sA σ 22 0 (gI σ 13 17 0).toNatClampNeg (vp_nar .byte ((v2 >>> ((24 - (8 * (v6 - v6 / 4 * 4))) &&& 31)).toInt8.toInt32))) 13 17 0 ((gI σ 13 17 0) + 1)) kk nn 23 [some (xR (some (13, 0))), some (xI v1), some (xI v2), some (xI v3), some (xI v4), some (xI v5), some (xI (v6 + 1)), none] [])))))) ∧ ((¬ 4 ≤ v6 → (vp_in (gI σ 13 17 0) 1000 ∧ AW G l M_X12_feed d post (sI (sA σ 22 0 (gI σ 13 17 0).toNatClampNeg (vp_nar .byte ((v1 >>> ((24 - (8 * (v6 - v6 / 4 * 4))) &&& 31)).toInt8.toInt32))) 13 17 0 ((gI σ 13 17 0) + 1)) kk nn 23 [some (xR (some (13, 0))), some (xI v1), some (xI v2), some (xI v3), some (xI v4), some (xI v5), some (xI (v6 + 1)), none] [])))))))) : AW G l M_X12_feed d post σ kk nn 23 [some (xR (some (13, 0))), some (xI v1), some (xI v2), some (xI v3), some (xI v4), some (xI v5), some (xI v6), none] [] := by
  refine aw_iload (i := 6) d_X12_feed_23 rfl ?_
  refine aw_bipush (x := 20) d_X12_feed_25 (by decide) ?_
  refine aw_icmp_ge (tgt := 117) d_X12_feed_27 (by decide) (fun c => ?_) (fun c => ?_)
  · have h := h.1 c
    refine aw_aload_n (i := 0) d_X12_feed_117 rfl rfl ?_
    refine aw_getI fl_RX12_177 rfl d_X12_feed_118 ?_
    exact aw_ret d_X12_feed_121 rfl rfl h
  · have h := h.2 c
    refine aw_iload (i := 6) d_X12_feed_30 rfl ?_
    refine aw_iconst (x := 4) d_X12_feed_32 (by decide) ?_
    refine aw_icmp_ge (tgt := 40) d_X12_feed_33 (by decide) (fun c => ?_) (fun c => ?_)
    · have h := h.1 c
      refine aw_iload (i := 6) d_X12_feed_40 rfl ?_
      refine aw_bipush (x := 8) d_X12_feed_42 (by decide) ?_
      refine aw_icmp_ge (tgt := 51) d_X12_feed_44 (by decide) (fun c => ?_) (fun c => ?_)
      · have h := h.1 c
        refine aw_iload (i := 6) d_X12_feed_51 rfl ?_
        refine aw_bipush (x := 12) d_X12_feed_53 (by decide) ?_
        refine aw_icmp_ge (tgt := 62) d_X12_feed_55 (by decide) (fun c => ?_) (fun c => ?_)
        · have h := h.1 c
          refine aw_iload (i := 6) d_X12_feed_62 rfl ?_
          refine aw_bipush (x := 16) d_X12_feed_64 (by decide) ?_
          refine aw_icmp_ge (tgt := 74) d_X12_feed_66 (by decide) (fun c => ?_) (fun c => ?_)
          · have h := h.1 c
            refine aw_iload (i := 5) d_X12_feed_74 rfl ?_
            refine aw_istore (i := 7) d_X12_feed_76 (by decide) ?_
            refine aw_aload_n (i := 0) d_X12_feed_78 rfl rfl ?_
            refine aw_getRv fl_RX12_48 rfl (r := some (22, 0)) (St.get hS 13 16 0 22 0 (by decide)) d_X12_feed_79 ?_
            refine aw_aload_n (i := 0) d_X12_feed_82 rfl rfl ?_
            refine aw_getI fl_RX12_177 rfl d_X12_feed_83 ?_
            refine aw_iload (i := 7) d_X12_feed_86 rfl ?_
            refine aw_bipush (x := 24) d_X12_feed_88 (by decide) ?_
            refine aw_bipush (x := 8) d_X12_feed_90 (by decide) ?_
            refine aw_iload (i := 6) d_X12_feed_92 rfl ?_
            refine aw_iconst (x := 4) d_X12_feed_94 (by decide) ?_
            refine aw_irem d_X12_feed_95 (by decide) ?_
            refine aw_imul d_X12_feed_96 ?_
            refine aw_isub d_X12_feed_97 ?_
            refine aw_ishr d_X12_feed_98 ?_
            refine aw_i2b d_X12_feed_99 rfl ?_
            obtain ⟨hq, h⟩ := h
            refine aw_bast d_X12_feed_100 (vp_of (St.len hS 22 0 1000 (by decide)) hq) ?_
            refine aw_aload_n (i := 0) d_X12_feed_101 rfl rfl ?_
            refine aw_dupR d_X12_feed_102 ?_
            refine aw_getIv fl_RX12_177 rfl (x := gI σ 13 17 0) rfl d_X12_feed_103 ?_
            refine aw_iconst (x := 1) d_X12_feed_106 (by decide) ?_
            refine aw_iadd d_X12_feed_107 ?_
            refine aw_putI fl_RX12_177 (by decide) (fin_no (r := (RX12, TX12, 68)) rfl rfl) d_X12_feed_108 rfl ⟨rfl, rfl⟩ ?_
            refine aw_iinc (i := 6) (v := v6 + 1) d_X12_feed_111 rfl rfl (by decide) ?_
            refine aw_goto (tgt := 23) d_X12_feed_114 (by decide) ?_
            exact AW.weak h (by exact ⟨rfl, ⟨rfl, ⟨rfl, ⟨rfl, ⟨rfl, ⟨rfl, ⟨rfl, trivial⟩⟩⟩⟩⟩⟩⟩)
          · have h := h.2 c
            refine aw_iload (i := 4) d_X12_feed_69 rfl ?_
            refine aw_goto (tgt := 76) d_X12_feed_71 (by decide) ?_
            refine aw_istore (i := 7) d_X12_feed_76 (by decide) ?_
            refine aw_aload_n (i := 0) d_X12_feed_78 rfl rfl ?_
            refine aw_getRv fl_RX12_48 rfl (r := some (22, 0)) (St.get hS 13 16 0 22 0 (by decide)) d_X12_feed_79 ?_
            refine aw_aload_n (i := 0) d_X12_feed_82 rfl rfl ?_
            refine aw_getI fl_RX12_177 rfl d_X12_feed_83 ?_
            refine aw_iload (i := 7) d_X12_feed_86 rfl ?_
            refine aw_bipush (x := 24) d_X12_feed_88 (by decide) ?_
            refine aw_bipush (x := 8) d_X12_feed_90 (by decide) ?_
            refine aw_iload (i := 6) d_X12_feed_92 rfl ?_
            refine aw_iconst (x := 4) d_X12_feed_94 (by decide) ?_
            refine aw_irem d_X12_feed_95 (by decide) ?_
            refine aw_imul d_X12_feed_96 ?_
            refine aw_isub d_X12_feed_97 ?_
            refine aw_ishr d_X12_feed_98 ?_
            refine aw_i2b d_X12_feed_99 rfl ?_
            obtain ⟨hq, h⟩ := h
            refine aw_bast d_X12_feed_100 (vp_of (St.len hS 22 0 1000 (by decide)) hq) ?_
            refine aw_aload_n (i := 0) d_X12_feed_101 rfl rfl ?_
            refine aw_dupR d_X12_feed_102 ?_
            refine aw_getIv fl_RX12_177 rfl (x := gI σ 13 17 0) rfl d_X12_feed_103 ?_
            refine aw_iconst (x := 1) d_X12_feed_106 (by decide) ?_
            refine aw_iadd d_X12_feed_107 ?_
            refine aw_putI fl_RX12_177 (by decide) (fin_no (r := (RX12, TX12, 68)) rfl rfl) d_X12_feed_108 rfl ⟨rfl, rfl⟩ ?_
            refine aw_iinc (i := 6) (v := v6 + 1) d_X12_feed_111 rfl rfl (by decide) ?_
            refine aw_goto (tgt := 23) d_X12_feed_114 (by decide) ?_
            exact AW.weak h (by exact ⟨rfl, ⟨rfl, ⟨rfl, ⟨rfl, ⟨rfl, ⟨rfl, ⟨rfl, trivial⟩⟩⟩⟩⟩⟩⟩)
        · have h := h.2 c
          refine aw_iload_n (i := 3) d_X12_feed_58 rfl rfl ?_
          refine aw_goto (tgt := 76) d_X12_feed_59 (by decide) ?_
          refine aw_istore (i := 7) d_X12_feed_76 (by decide) ?_
          refine aw_aload_n (i := 0) d_X12_feed_78 rfl rfl ?_
          refine aw_getRv fl_RX12_48 rfl (r := some (22, 0)) (St.get hS 13 16 0 22 0 (by decide)) d_X12_feed_79 ?_
          refine aw_aload_n (i := 0) d_X12_feed_82 rfl rfl ?_
          refine aw_getI fl_RX12_177 rfl d_X12_feed_83 ?_
          refine aw_iload (i := 7) d_X12_feed_86 rfl ?_
          refine aw_bipush (x := 24) d_X12_feed_88 (by decide) ?_
          refine aw_bipush (x := 8) d_X12_feed_90 (by decide) ?_
          refine aw_iload (i := 6) d_X12_feed_92 rfl ?_
          refine aw_iconst (x := 4) d_X12_feed_94 (by decide) ?_
          refine aw_irem d_X12_feed_95 (by decide) ?_
          refine aw_imul d_X12_feed_96 ?_
          refine aw_isub d_X12_feed_97 ?_
          refine aw_ishr d_X12_feed_98 ?_
          refine aw_i2b d_X12_feed_99 rfl ?_
          obtain ⟨hq, h⟩ := h
          refine aw_bast d_X12_feed_100 (vp_of (St.len hS 22 0 1000 (by decide)) hq) ?_
          refine aw_aload_n (i := 0) d_X12_feed_101 rfl rfl ?_
          refine aw_dupR d_X12_feed_102 ?_
          refine aw_getIv fl_RX12_177 rfl (x := gI σ 13 17 0) rfl d_X12_feed_103 ?_
          refine aw_iconst (x := 1) d_X12_feed_106 (by decide) ?_
          refine aw_iadd d_X12_feed_107 ?_
          refine aw_putI fl_RX12_177 (by decide) (fin_no (r := (RX12, TX12, 68)) rfl rfl) d_X12_feed_108 rfl ⟨rfl, rfl⟩ ?_
          refine aw_iinc (i := 6) (v := v6 + 1) d_X12_feed_111 rfl rfl (by decide) ?_
          refine aw_goto (tgt := 23) d_X12_feed_114 (by decide) ?_
          exact AW.weak h (by exact ⟨rfl, ⟨rfl, ⟨rfl, ⟨rfl, ⟨rfl, ⟨rfl, ⟨rfl, trivial⟩⟩⟩⟩⟩⟩⟩)
      · have h := h.2 c
        refine aw_iload_n (i := 2) d_X12_feed_47 rfl rfl ?_
        refine aw_goto (tgt := 76) d_X12_feed_48 (by decide) ?_
        refine aw_istore (i := 7) d_X12_feed_76 (by decide) ?_
        refine aw_aload_n (i := 0) d_X12_feed_78 rfl rfl ?_
        refine aw_getRv fl_RX12_48 rfl (r := some (22, 0)) (St.get hS 13 16 0 22 0 (by decide)) d_X12_feed_79 ?_
        refine aw_aload_n (i := 0) d_X12_feed_82 rfl rfl ?_
        refine aw_getI fl_RX12_177 rfl d_X12_feed_83 ?_
        refine aw_iload (i := 7) d_X12_feed_86 rfl ?_
        refine aw_bipush (x := 24) d_X12_feed_88 (by decide) ?_
        refine aw_bipush (x := 8) d_X12_feed_90 (by decide) ?_
        refine aw_iload (i := 6) d_X12_feed_92 rfl ?_
        refine aw_iconst (x := 4) d_X12_feed_94 (by decide) ?_
        refine aw_irem d_X12_feed_95 (by decide) ?_
        refine aw_imul d_X12_feed_96 ?_
        refine aw_isub d_X12_feed_97 ?_
        refine aw_ishr d_X12_feed_98 ?_
        refine aw_i2b d_X12_feed_99 rfl ?_
        obtain ⟨hq, h⟩ := h
        refine aw_bast d_X12_feed_100 (vp_of (St.len hS 22 0 1000 (by decide)) hq) ?_
        refine aw_aload_n (i := 0) d_X12_feed_101 rfl rfl ?_
        refine aw_dupR d_X12_feed_102 ?_
        refine aw_getIv fl_RX12_177 rfl (x := gI σ 13 17 0) rfl d_X12_feed_103 ?_
        refine aw_iconst (x := 1) d_X12_feed_106 (by decide) ?_
        refine aw_iadd d_X12_feed_107 ?_
        refine aw_putI fl_RX12_177 (by decide) (fin_no (r := (RX12, TX12, 68)) rfl rfl) d_X12_feed_108 rfl ⟨rfl, rfl⟩ ?_
        refine aw_iinc (i := 6) (v := v6 + 1) d_X12_feed_111 rfl rfl (by decide) ?_
        refine aw_goto (tgt := 23) d_X12_feed_114 (by decide) ?_
        exact AW.weak h (by exact ⟨rfl, ⟨rfl, ⟨rfl, ⟨rfl, ⟨rfl, ⟨rfl, ⟨rfl, trivial⟩⟩⟩⟩⟩⟩⟩)
    · have h := h.2 c
      refine aw_iload_n (i := 1) d_X12_feed_36 rfl rfl ?_
      refine aw_goto (tgt := 76) d_X12_feed_37 (by decide) ?_
      refine aw_istore (i := 7) d_X12_feed_76 (by decide) ?_
      refine aw_aload_n (i := 0) d_X12_feed_78 rfl rfl ?_
      refine aw_getRv fl_RX12_48 rfl (r := some (22, 0)) (St.get hS 13 16 0 22 0 (by decide)) d_X12_feed_79 ?_
      refine aw_aload_n (i := 0) d_X12_feed_82 rfl rfl ?_
      refine aw_getI fl_RX12_177 rfl d_X12_feed_83 ?_
      refine aw_iload (i := 7) d_X12_feed_86 rfl ?_
      refine aw_bipush (x := 24) d_X12_feed_88 (by decide) ?_
      refine aw_bipush (x := 8) d_X12_feed_90 (by decide) ?_
      refine aw_iload (i := 6) d_X12_feed_92 rfl ?_
      refine aw_iconst (x := 4) d_X12_feed_94 (by decide) ?_
      refine aw_irem d_X12_feed_95 (by decide) ?_
      refine aw_imul d_X12_feed_96 ?_
      refine aw_isub d_X12_feed_97 ?_
      refine aw_ishr d_X12_feed_98 ?_
      refine aw_i2b d_X12_feed_99 rfl ?_
      obtain ⟨hq, h⟩ := h
      refine aw_bast d_X12_feed_100 (vp_of (St.len hS 22 0 1000 (by decide)) hq) ?_
      refine aw_aload_n (i := 0) d_X12_feed_101 rfl rfl ?_
      refine aw_dupR d_X12_feed_102 ?_
      refine aw_getIv fl_RX12_177 rfl (x := gI σ 13 17 0) rfl d_X12_feed_103 ?_
      refine aw_iconst (x := 1) d_X12_feed_106 (by decide) ?_
      refine aw_iadd d_X12_feed_107 ?_
      refine aw_putI fl_RX12_177 (by decide) (fin_no (r := (RX12, TX12, 68)) rfl rfl) d_X12_feed_108 rfl ⟨rfl, rfl⟩ ?_
      refine aw_iinc (i := 6) (v := v6 + 1) d_X12_feed_111 rfl rfl (by decide) ?_
      refine aw_goto (tgt := 23) d_X12_feed_114 (by decide) ?_
      exact AW.weak h (by exact ⟨rfl, ⟨rfl, ⟨rfl, ⟨rfl, ⟨rfl, ⟨rfl, ⟨rfl, trivial⟩⟩⟩⟩⟩⟩⟩)
set_option maxRecDepth 20000 in
theorem vc_X12_end {G : GG} {l : Launch} {d : Nat} {post : Option AVal → AS → Prop} {σ : AS} {kk nn : Nat} {a1 : Int32} (h : (((a1 < 0 → post (some (xI (-1))) (sI σ 13 0 0 0))) ∧ ((¬ a1 < 0 → (((a1 ≤ (gI σ 13 17 0) → post (some (xI a1)) (sI (sI σ 13 0 0 0) 13 17 0 a1))) ∧ ((¬ a1 ≤ (gI σ 13 17 0) → post (some (xI (-1))) (sI σ 13 0 0 0)))))))) : AW G l M_X12_end d post σ kk nn 0 [some (xR (some (13, 0))), some (xI a1)] [] := by
  refine aw_aload_n (i := 0) d_X12_end_0 rfl rfl ?_
  refine aw_iconst (x := 0) d_X12_end_1 (by decide) ?_
  refine aw_putI fl_RX12_1 (by decide) (fin_no (r := (RX12, TX12, 68)) rfl rfl) d_X12_end_2 rfl ⟨rfl, rfl⟩ ?_
  refine aw_iload_n (i := 1) d_X12_end_5 rfl rfl ?_
  refine aw_if_lt (tgt := 17) d_X12_end_6 (by decide) (fun c => ?_) (fun c => ?_)
  · have h := h.1 c
    refine aw_iconst (x := -1) d_X12_end_17 (by decide) ?_
    exact aw_ret d_X12_end_18 rfl rfl h
  · have h := h.2 c
    refine aw_iload_n (i := 1) d_X12_end_9 rfl rfl ?_
    refine aw_aload_n (i := 0) d_X12_end_10 rfl rfl ?_
    refine aw_getIv fl_RX12_177 rfl (x := gI σ 13 17 0) rfl d_X12_end_11 ?_
    refine aw_icmp_le (tgt := 19) d_X12_end_14 (by decide) (fun c => ?_) (fun c => ?_)
    · have h := h.1 c
      refine aw_aload_n (i := 0) d_X12_end_19 rfl rfl ?_
      refine aw_iload_n (i := 1) d_X12_end_20 rfl rfl ?_
      refine aw_putI fl_RX12_177 (by decide) (fin_no (r := (RX12, TX12, 68)) rfl rfl) d_X12_end_21 rfl ⟨rfl, rfl⟩ ?_
      refine aw_iload_n (i := 1) d_X12_end_24 rfl rfl ?_
      exact aw_ret d_X12_end_25 rfl rfl h
    · have h := h.2 c
      refine aw_iconst (x := -1) d_X12_end_17 (by decide) ?_
      exact aw_ret d_X12_end_18 rfl rfl h
set_option maxRecDepth 20000 in
theorem vc_X12_see {G : GG} {l : Launch} {d : Nat} {post : Option AVal → AS → Prop} {σ : AS} {kk nn : Nat} {a1 : Int32} (h : ((((gI σ 13 19 0) ≤ a1 → post (some (xI 0)) σ)) ∧ ((¬ (gI σ 13 19 0) ≤ a1 → (∃ j1 : Nat, ((gR σ 13 18 0) = some (22, j1) ∧ (vp_in a1 (gN σ 22 j1) ∧ post (some (xI (gA σ 22 j1 a1.toNatClampNeg))) σ))))))) : AW G l M_X12_see d post σ kk nn 0 [some (xR (some (13, 0))), some (xI a1)] [] := by
  refine aw_iload_n (i := 1) d_X12_see_0 rfl rfl ?_
  refine aw_aload_n (i := 0) d_X12_see_1 rfl rfl ?_
  refine aw_getI fl_RX12_180 rfl d_X12_see_2 ?_
  refine aw_icmp_ge (tgt := 17) d_X12_see_5 (by decide) (fun c => ?_) (fun c => ?_)
  · have h := h.1 c
    refine aw_iconst (x := 0) d_X12_see_17 (by decide) ?_
    exact aw_ret d_X12_see_18 rfl rfl h
  · have h := h.2 c
    refine aw_aload_n (i := 0) d_X12_see_8 rfl rfl ?_
    refine aw_getR fl_RX12_183 rfl d_X12_see_9 ?_
    refine aw_iload_n (i := 1) d_X12_see_12 rfl rfl ?_
    obtain ⟨j1, ej1, h⟩ := h
    rw [ej1]
    obtain ⟨hq, h⟩ := h
    refine aw_bald d_X12_see_13 hq ?_
    refine aw_goto (tgt := 18) d_X12_see_14 (by decide) ?_
    exact aw_ret d_X12_see_18 rfl rfl h
set_option maxRecDepth 20000 in
theorem vc_X12_isSmall {G : GG} {l : Launch} {d : Nat} {post : Option AVal → AS → Prop} {σ : AS} {kk nn : Nat} {a1 : Int32} (h : (((a1 < 97 → post (some (xI 0)) σ)) ∧ ((¬ a1 < 97 → (((122 < a1 → post (some (xI 0)) σ)) ∧ ((¬ 122 < a1 → post (some (xI 1)) σ))))))) : AW G l M_X12_isSmall d post σ kk nn 0 [some (xI a1)] [] := by
  refine aw_iload_n (i := 0) d_X12_isSmall_0 rfl rfl ?_
  refine aw_bipush (x := 97) d_X12_isSmall_1 (by decide) ?_
  refine aw_icmp_lt (tgt := 16) d_X12_isSmall_3 (by decide) (fun c => ?_) (fun c => ?_)
  · have h := h.1 c
    refine aw_iconst (x := 0) d_X12_isSmall_16 (by decide) ?_
    exact aw_ret d_X12_isSmall_17 rfl (by decide) h
  · have h := h.2 c
    refine aw_iload_n (i := 0) d_X12_isSmall_6 rfl rfl ?_
    refine aw_bipush (x := 122) d_X12_isSmall_7 (by decide) ?_
    refine aw_icmp_gt (tgt := 16) d_X12_isSmall_9 (by decide) (fun c => ?_) (fun c => ?_)
    · have h := h.1 c
      refine aw_iconst (x := 0) d_X12_isSmall_16 (by decide) ?_
      exact aw_ret d_X12_isSmall_17 rfl (by decide) h
    · have h := h.2 c
      refine aw_iconst (x := 1) d_X12_isSmall_12 (by decide) ?_
      refine aw_goto (tgt := 17) d_X12_isSmall_13 (by decide) ?_
      exact aw_ret d_X12_isSmall_17 rfl (by decide) h
set_option maxRecDepth 20000 in
theorem vc_X12_isDigit {G : GG} {l : Launch} {d : Nat} {post : Option AVal → AS → Prop} {σ : AS} {kk nn : Nat} {a1 : Int32} (h : (((a1 < 48 → post (some (xI 0)) σ)) ∧ ((¬ a1 < 48 → (((57 < a1 → post (some (xI 0)) σ)) ∧ ((¬ 57 < a1 → post (some (xI 1)) σ))))))) : AW G l M_X12_isDigit d post σ kk nn 0 [some (xI a1)] [] := by
  refine aw_iload_n (i := 0) d_X12_isDigit_0 rfl rfl ?_
  refine aw_bipush (x := 48) d_X12_isDigit_1 (by decide) ?_
  refine aw_icmp_lt (tgt := 16) d_X12_isDigit_3 (by decide) (fun c => ?_) (fun c => ?_)
  · have h := h.1 c
    refine aw_iconst (x := 0) d_X12_isDigit_16 (by decide) ?_
    exact aw_ret d_X12_isDigit_17 rfl (by decide) h
  · have h := h.2 c
    refine aw_iload_n (i := 0) d_X12_isDigit_6 rfl rfl ?_
    refine aw_bipush (x := 57) d_X12_isDigit_7 (by decide) ?_
    refine aw_icmp_gt (tgt := 16) d_X12_isDigit_9 (by decide) (fun c => ?_) (fun c => ?_)
    · have h := h.1 c
      refine aw_iconst (x := 0) d_X12_isDigit_16 (by decide) ?_
      exact aw_ret d_X12_isDigit_17 rfl (by decide) h
    · have h := h.2 c
      refine aw_iconst (x := 1) d_X12_isDigit_12 (by decide) ?_
      refine aw_goto (tgt := 17) d_X12_isDigit_13 (by decide) ?_
      exact aw_ret d_X12_isDigit_17 rfl (by decide) h
set_option maxRecDepth 20000 in
theorem vc_X12_next {G : GG} {l : Launch} {d : Nat} {post : Option AVal → AS → Prop} {σ : AS} {kk nn : Nat}  (h : ((((gI σ 13 19 0) ≤ (gI σ 13 20 0) → AW G l M_X12_next (d + 1) post σ kk nn 52 [some (xR (some (13, 0))), none] [])) ∧ ((¬ (gI σ 13 19 0) ≤ (gI σ 13 20 0) → (∃ j1 : Nat, ((gR σ 13 18 0) = some (22, j1) ∧ (vp_in (gI σ 13 20 0) (gN σ 22 j1) ∧ ((((gA σ 22 j1 (gI σ 13 20 0).toNatClampNeg) = 32 → AW G l M_X12_next (d + 1) post (sI σ 13 20 0 ((gI σ 13 20 0) + 1)) kk nn 0 [some (xR (some (13, 0))), none] [])) ∧ ((¬ (gA σ 22 j1 (gI σ 13 20 0).toNatClampNeg) = 32 → (vp_in (gI σ 13 20 0) (gN σ 22 j1) ∧ (((¬ (gA σ 22 j1 (gI σ 13 20 0).toNatClampNeg) = 10 → AW G l M_X12_next (d + 1) post σ kk nn 52 [some (xR (some (13, 0))), none] [])) ∧ (((gA σ 22 j1 (gI σ 13 20 0).toNatClampNeg) = 10 → AW G l M_X12_next (d + 1) post (sI σ 13 20 0 ((gI σ 13 20 0) + 1)) kk nn 0 [some (xR (some (13, 0))), none] [])))))))))))))) : AW G l M_X12_next (d + 1) post σ kk nn 0 [some (xR (some (13, 0))), none] [] := by
  refine aw_aload_n (i := 0) d_X12_next_0 rfl rfl ?_
  refine aw_getI fl_RX12_186 rfl d_X12_next_1 ?_
  refine aw_aload_n (i := 0) d_X12_next_4 rfl rfl ?_
  refine aw_getI fl_RX12_180 rfl d_X12_next_5 ?_
  refine aw_icmp_ge (tgt := 52) d_X12_next_8 (by decide) (fun c => ?_) (fun c => ?_)
  · have h := h.1 c
    exact h
  · have h := h.2 c
    refine aw_aload_n (i := 0) d_X12_next_11 rfl rfl ?_
    refine aw_getR fl_RX12_183 rfl d_X12_next_12 ?_
    refine aw_aload_n (i := 0) d_X12_next_15 rfl rfl ?_
    refine aw_getI fl_RX12_186 rfl d_X12_next_16 ?_
    obtain ⟨j1, ej1, h⟩ := h
    rw [ej1]
    obtain ⟨hq, h⟩ := h
    refine aw_bald d_X12_next_19 hq ?_
    refine aw_bipush (x := 32) d_X12_next_20 (by decide) ?_
    refine aw_icmp_eq (tgt := 39) d_X12_next_22 (by decide) (fun c => ?_) (fun c => ?_)
    · have h := h.1 c
      refine aw_aload_n (i := 0) d_X12_next_39 rfl rfl ?_
      refine aw_dupR d_X12_next_40 ?_
      refine aw_getI fl_RX12_186 rfl d_X12_next_41 ?_
      refine aw_iconst (x := 1) d_X12_next_44 (by decide) ?_
      refine aw_iadd d_X12_next_45 ?_
      refine aw_putI fl_RX12_186 (by decide) (fin_no (r := (RX12, TX12, 68)) rfl rfl) d_X12_next_46 rfl ⟨rfl, rfl⟩ ?_
      refine aw_goto (tgt := 0) d_X12_next_49 (by decide) ?_
      exact h
    · have h := h.2 c
      refine aw_aload_n (i := 0) d_X12_next_25 rfl rfl ?_
      refine aw_getRv fl_RX12_183 rfl (r := (some (22, j1))) ej1 d_X12_next_26 ?_
      refine aw_aload_n (i := 0) d_X12_next_29 rfl rfl ?_
      refine aw_getI fl_RX12_186 rfl d_X12_next_30 ?_
      obtain ⟨hq, h⟩ := h
      refine aw_bald d_X12_next_33 hq ?_
      refine aw_bipush (x := 10) d_X12_next_34 (by decide) ?_
      refine aw_icmp_ne (tgt := 52) d_X12_next_36 (by decide) (fun c => ?_) (fun c => ?_)
      · have h := h.1 c
        exact h
      · have h := h.2 c
        refine aw_aload_n (i := 0) d_X12_next_39 rfl rfl ?_
        refine aw_dupR d_X12_next_40 ?_
        refine aw_getI fl_RX12_186 rfl d_X12_next_41 ?_
        refine aw_iconst (x := 1) d_X12_next_44 (by decide) ?_
        refine aw_iadd d_X12_next_45 ?_
        refine aw_putI fl_RX12_186 (by decide) (fin_no (r := (RX12, TX12, 68)) rfl rfl) d_X12_next_46 rfl ⟨rfl, rfl⟩ ?_
        refine aw_goto (tgt := 0) d_X12_next_49 (by decide) ?_
        exact h
set_option maxRecDepth 20000 in
theorem vc_X12_next_52 {G : GG} {l : Launch} {d : Nat} {post : Option AVal → AS → Prop} {σ : AS} {kk nn : Nat}  (h : ((((gI σ 13 20 0) < (gI σ 13 19 0) → (∃ j3 : Nat, ((gR σ 13 18 0) = some (22, j3) ∧ (vp_in (gI σ 13 20 0) (gN (sI σ 13 21 0 (gI σ 13 20 0)) 22 j3) ∧ (AMet G l M_X12_isSmall d 0 0 [xI (gA (sI σ 13 21 0 (gI σ 13 20 0)) 22 j3 (gI σ 13 20 0).toNatClampNeg)] (sI (sI σ 13 21 0 (gI σ 13 20 0)) 13 20 0 ((gI σ 13 20 0) + 1)) (retI (fun x5 σ4 => (((x5 = 0 → AMet G l M_X12_isDigit d 0 0 [xI (gA (sI σ 13 21 0 (gI σ 13 20 0)) 22 j3 (gI σ 13 20 0).toNatClampNeg)] σ4 (retI (fun x7 σ6 => (((x7 = 0 → ((((gA (sI σ 13 21 0 (gI σ 13 20 0)) 22 j3 (gI σ 13 20 0).toNatClampNeg) = 40 → post none (sI (sI σ6 13 23 0 (gA (sI σ 13 21 0 (gI σ 13 20 0)) 22 j3 (gI σ 13 20 0).toNatClampNeg)) 13 22 0 4))) ∧ ((¬ (gA (sI σ 13 21 0 (gI σ 13 20 0)) 22 j3 (gI σ 13 20 0).toNatClampNeg) = 40 → ((((gA (sI σ 13 21 0 (gI σ 13 20 0)) 22 j3 (gI σ 13 20 0).toNatClampNeg) = 41 → post none (sI (sI σ6 13 23 0 (gA (sI σ 13 21 0 (gI σ 13 20 0)) 22 j3 (gI σ 13 20 0).toNatClampNeg)) 13 22 0 4))) ∧ ((¬ (gA (sI σ 13 21 0 (gI σ 13 20 0)) 22 j3 (gI σ 13 20 0).toNatClampNeg) = 41 → ((((gA (sI σ 13 21 0 (gI σ 13 20 0)) 22 j3 (gI σ 13 20 0).toNatClampNeg) = 58 → post none (sI (sI σ6 13 23 0 (gA (sI σ 13 21 0 (gI σ 13 20 0)) 22 j3 (gI σ 13 20 0).toNatClampNeg)) 13 22 0 4))) ∧ ((¬ (gA (sI σ 13 21 0 (gI σ 13 20 0)) 22 j3 (gI σ 13 20 0).toNatClampNeg) = 58 → ((((gA (sI σ 13 21 0 (gI σ 13 20 0)) 22 j3 (gI σ 13 20 0).toNatClampNeg) = 59 → post none (sI (sI σ6 13 23 0 (gA (sI σ 13 21 0 (gI σ 13 20 0)) 22 j3 (gI σ 13 20 0).toNatClampNeg)) 13 22 0 4))) ∧ ((¬ (gA (sI σ 13 21 0 (gI σ 13 20 0)) 22 j3 (gI σ 13 20 0).toNatClampNeg) = 59 → ((((gA (sI σ 13 21 0 (gI σ 13 20 0)) 22 j3 (gI σ 13 20 0).toNatClampNeg) = 60 → post none (sI (sI σ6 13 23 0 (gA (sI σ 13 21 0 (gI σ 13 20 0)) 22 j3 (gI σ 13 20 0).toNatClampNeg)) 13 22 0 4))) ∧ ((¬ (gA (sI σ 13 21 0 (gI σ 13 20 0)) 22 j3 (gI σ 13 20 0).toNatClampNeg) = 60 → (((¬ (gA (sI σ 13 21 0 (gI σ 13 20 0)) 22 j3 (gI σ 13 20 0).toNatClampNeg) = 62 → post none (sI (sI σ6 13 23 0 (gA (sI σ 13 21 0 (gI σ 13 20 0)) 22 j3 (gI σ 13 20 0).toNatClampNeg)) 13 22 0 1))) ∧ (((gA (sI σ 13 21 0 (gI σ 13 20 0)) 22 j3 (gI σ 13 20 0).toNatClampNeg) = 62 → post none (sI (sI σ6 13 23 0 (gA (sI σ 13 21 0 (gI σ 13 20 0)) 22 j3 (gI σ 13 20 0).toNatClampNeg)) 13 22 0 4))))))))))))))))))))) ∧ ((¬ x7 = 0 → AW G l M_X12_next (d + 1) post (sI σ6 13 23 0 ((gA (sI σ 13 21 0 (gI σ 13 20 0)) 22 j3 (gI σ 13 20 0).toNatClampNeg) - 48)) kk nn 154 [some (xR (some (13, 0))), none] []))))))) ∧ ((¬ x5 = 0 → AW G l M_X12_next (d + 1) post σ4 kk nn 104 [some (xR (some (13, 0))), none] []))))))))))) ∧ ((¬ (gI σ 13 20 0) < (gI σ 13 19 0) → post none (sI (sI σ 13 21 0 (gI σ 13 20 0)) 13 22 0 0))))) : AW G l M_X12_next (d + 1) post σ kk nn 52 [some (xR (some (13, 0))), none] [] := by
  refine aw_aload_n (i := 0) d_X12_next_52 rfl rfl ?_
  refine aw_aload_n (i := 0) d_X12_next_53 rfl rfl ?_
  refine aw_getI fl_RX12_186 rfl d_X12_next_54 ?_
  refine aw_putI fl_RX12_189 (by decide) (fin_no (r := (RX12, TX12, 68)) rfl rfl) d_X12_next_57 rfl ⟨rfl, rfl⟩ ?_
  refine aw_aload_n (i := 0) d_X12_next_60 rfl rfl ?_
  refine aw_getIv fl_RX12_186 rfl (x := gI σ 13 20 0) rfl d_X12_next_61 ?_
  refine aw_aload_n (i := 0) d_X12_next_64 rfl rfl ?_
  refine aw_getIv fl_RX12_180 rfl (x := gI σ 13 19 0) rfl d_X12_next_65 ?_
  refine aw_icmp_lt (tgt := 77) d_X12_next_68 (by decide) (fun c => ?_) (fun c => ?_)
  · have h := h.1 c
    refine aw_aload_n (i := 0) d_X12_next_77 rfl rfl ?_
    refine aw_getRv fl_RX12_183 rfl (r := (gR σ 13 18 0)) rfl d_X12_next_78 ?_
    refine aw_aload_n (i := 0) d_X12_next_81 rfl rfl ?_
    refine aw_getIv fl_RX12_186 rfl (x := gI σ 13 20 0) rfl d_X12_next_82 ?_
    obtain ⟨j3, ej3, h⟩ := h
    rw [ej3]
    obtain ⟨hq, h⟩ := h
    refine aw_bald d_X12_next_85 hq ?_
    refine aw_istore_n (i := 1) d_X12_next_86 rfl (by decide) ?_
    refine aw_aload_n (i := 0) d_X12_next_87 rfl rfl ?_
    refine aw_dupR d_X12_next_88 ?_
    refine aw_getIv fl_RX12_186 rfl (x := gI σ 13 20 0) rfl d_X12_next_89 ?_
    refine aw_iconst (x := 1) d_X12_next_92 (by decide) ?_
    refine aw_iadd d_X12_next_93 ?_
    refine aw_putI fl_RX12_186 (by decide) (fin_no (r := (RX12, TX12, 68)) rfl rfl) d_X12_next_94 rfl ⟨rfl, rfl⟩ ?_
    refine aw_iload_n (i := 1) d_X12_next_97 rfl rfl ?_
    refine aw_callS0 (as := [xI (gA (sI σ 13 21 0 (gI σ 13 20 0)) 22 j3 (gI σ 13 20 0).toNatClampNeg)]) mw_X12_isSmall ml_RX12_195 rfl d_X12_next_98 rfl (Nat.le_of_ble_eq_true rfl) (AMet.mono h (aw_toI (fun x5 σ4 h => ?_)))
    refine aw_if_eq (tgt := 139) d_X12_next_101 (by decide) (fun c => ?_) (fun c => ?_)
    · have h := h.1 c
      refine aw_iload_n (i := 1) d_X12_next_139 rfl rfl ?_
      refine aw_callS0 (as := [xI (gA (sI σ 13 21 0 (gI σ 13 20 0)) 22 j3 (gI σ 13 20 0).toNatClampNeg)]) mw_X12_isDigit ml_RX12_202 rfl d_X12_next_140 rfl (Nat.le_of_ble_eq_true rfl) (AMet.mono h (aw_toI (fun x7 σ6 h => ?_)))
      refine aw_if_eq (tgt := 242) d_X12_next_143 (by decide) (fun c => ?_) (fun c => ?_)
      · have h := h.1 c
        refine aw_aload_n (i := 0) d_X12_next_242 rfl rfl ?_
        refine aw_iload_n (i := 1) d_X12_next_243 rfl rfl ?_
        refine aw_putI fl_RX12_205 (by decide) (fin_no (r := (RX12, TX12, 68)) rfl rfl) d_X12_next_244 rfl ⟨rfl, rfl⟩ ?_
        refine aw_aload_n (i := 0) d_X12_next_247 rfl rfl ?_
        refine aw_iload_n (i := 1) d_X12_next_248 rfl rfl ?_
        refine aw_bipush (x := 40) d_X12_next_249 (by decide) ?_
        refine aw_icmp_eq (tgt := 284) d_X12_next_251 (by decide) (fun c => ?_) (fun c => ?_)
        · have h := h.1 c
          refine aw_iconst (x := 4) d_X12_next_284 (by decide) ?_
          refine aw_goto (tgt := 289) d_X12_next_285 (by decide) ?_
          refine aw_putI fl_RX12_192 (by decide) (fin_no (r := (RX12, TX12, 68)) rfl rfl) d_X12_next_289 rfl ⟨rfl, rfl⟩ ?_
          exact aw_vret d_X12_next_292 rfl h
        · have h := h.2 c
          refine aw_iload_n (i := 1) d_X12_next_254 rfl rfl ?_
          refine aw_bipush (x := 41) d_X12_next_255 (by decide) ?_
          refine aw_icmp_eq (tgt := 284) d_X12_next_257 (by decide) (fun c => ?_) (fun c => ?_)
          · have h := h.1 c
            refine aw_iconst (x := 4) d_X12_next_284 (by decide) ?_
            refine aw_goto (tgt := 289) d_X12_next_285 (by decide) ?_
            refine aw_putI fl_RX12_192 (by decide) (fin_no (r := (RX12, TX12, 68)) rfl rfl) d_X12_next_289 rfl ⟨rfl, rfl⟩ ?_
            exact aw_vret d_X12_next_292 rfl h
          · have h := h.2 c
            refine aw_iload_n (i := 1) d_X12_next_260 rfl rfl ?_
            refine aw_bipush (x := 58) d_X12_next_261 (by decide) ?_
            refine aw_icmp_eq (tgt := 284) d_X12_next_263 (by decide) (fun c => ?_) (fun c => ?_)
            · have h := h.1 c
              refine aw_iconst (x := 4) d_X12_next_284 (by decide) ?_
              refine aw_goto (tgt := 289) d_X12_next_285 (by decide) ?_
              refine aw_putI fl_RX12_192 (by decide) (fin_no (r := (RX12, TX12, 68)) rfl rfl) d_X12_next_289 rfl ⟨rfl, rfl⟩ ?_
              exact aw_vret d_X12_next_292 rfl h
            · have h := h.2 c
              refine aw_iload_n (i := 1) d_X12_next_266 rfl rfl ?_
              refine aw_bipush (x := 59) d_X12_next_267 (by decide) ?_
              refine aw_icmp_eq (tgt := 284) d_X12_next_269 (by decide) (fun c => ?_) (fun c => ?_)
              · have h := h.1 c
                refine aw_iconst (x := 4) d_X12_next_284 (by decide) ?_
                refine aw_goto (tgt := 289) d_X12_next_285 (by decide) ?_
                refine aw_putI fl_RX12_192 (by decide) (fin_no (r := (RX12, TX12, 68)) rfl rfl) d_X12_next_289 rfl ⟨rfl, rfl⟩ ?_
                exact aw_vret d_X12_next_292 rfl h
              · have h := h.2 c
                refine aw_iload_n (i := 1) d_X12_next_272 rfl rfl ?_
                refine aw_bipush (x := 60) d_X12_next_273 (by decide) ?_
                refine aw_icmp_eq (tgt := 284) d_X12_next_275 (by decide) (fun c => ?_) (fun c => ?_)
                · have h := h.1 c
                  refine aw_iconst (x := 4) d_X12_next_284 (by decide) ?_
                  refine aw_goto (tgt := 289) d_X12_next_285 (by decide) ?_
                  refine aw_putI fl_RX12_192 (by decide) (fin_no (r := (RX12, TX12, 68)) rfl rfl) d_X12_next_289 rfl ⟨rfl, rfl⟩ ?_
                  exact aw_vret d_X12_next_292 rfl h
                · have h := h.2 c
                  refine aw_iload_n (i := 1) d_X12_next_278 rfl rfl ?_
                  refine aw_bipush (x := 62) d_X12_next_279 (by decide) ?_
                  refine aw_icmp_ne (tgt := 288) d_X12_next_281 (by decide) (fun c => ?_) (fun c => ?_)
                  · have h := h.1 c
                    refine aw_iconst (x := 1) d_X12_next_288 (by decide) ?_
                    refine aw_putI fl_RX12_192 (by decide) (fin_no (r := (RX12, TX12, 68)) rfl rfl) d_X12_next_289 rfl ⟨rfl, rfl⟩ ?_
                    exact aw_vret d_X12_next_292 rfl h
                  · have h := h.2 c
                    refine aw_iconst (x := 4) d_X12_next_284 (by decide) ?_
                    refine aw_goto (tgt := 289) d_X12_next_285 (by decide) ?_
                    refine aw_putI fl_RX12_192 (by decide) (fin_no (r := (RX12, TX12, 68)) rfl rfl) d_X12_next_289 rfl ⟨rfl, rfl⟩ ?_
                    exact aw_vret d_X12_next_292 rfl h
      · have h := h.2 c
        refine aw_aload_n (i := 0) d_X12_next_146 rfl rfl ?_
        refine aw_iload_n (i := 1) d_X12_next_147 rfl rfl ?_
        refine aw_bipush (x := 48) d_X12_next_148 (by decide) ?_
        refine aw_isub d_X12_next_150 ?_
        refine aw_putI fl_RX12_205 (by decide) (fin_no (r := (RX12, TX12, 68)) rfl rfl) d_X12_next_151 rfl ⟨rfl, rfl⟩ ?_
        exact AW.weak h (by exact ⟨rfl, trivial⟩)
    · have h := h.2 c
      exact AW.weak h (by exact ⟨rfl, trivial⟩)
  · have h := h.2 c
    refine aw_aload_n (i := 0) d_X12_next_71 rfl rfl ?_
    refine aw_iconst (x := 0) d_X12_next_72 (by decide) ?_
    refine aw_putI fl_RX12_192 (by decide) (fin_no (r := (RX12, TX12, 68)) rfl rfl) d_X12_next_73 rfl ⟨rfl, rfl⟩ ?_
    exact aw_vret d_X12_next_76 rfl h
set_option maxRecDepth 20000 in
theorem vc_X12_next_104 {G : GG} {l : Launch} {d : Nat} {post : Option AVal → AS → Prop} {σ : AS} {kk nn : Nat}  (h : AMet G l M_X12_see d 0 0 [xR (some (13, 0)), xI (gI σ 13 20 0)] σ (retI (fun x9 σ8 => AMet G l M_X12_isSmall d 0 0 [xI x9] σ8 (retI (fun x11 σ10 => (((x11 = 0 → post none (sI σ10 13 22 0 3))) ∧ ((¬ x11 = 0 → AW G l M_X12_next (d + 1) post (sI σ10 13 20 0 ((gI σ10 13 20 0) + 1)) kk nn 104 [some (xR (some (13, 0))), none] [])))))))) : AW G l M_X12_next (d + 1) post σ kk nn 104 [some (xR (some (13, 0))), none] [] := by
  refine aw_aload_n (i := 0) d_X12_next_104 rfl rfl ?_
  refine aw_aload_n (i := 0) d_X12_next_105 rfl rfl ?_
  refine aw_getI fl_RX12_186 rfl d_X12_next_106 ?_
  refine aw_callV0 (as := [xI (gI σ 13 20 0)]) mw_X12_see (by decide +kernel) ml_RX12_198 rfl d_X12_next_109 rfl (Nat.le_of_ble_eq_true rfl) (AMet.mono h (aw_toI (fun x9 σ8 h => ?_)))
  refine aw_callS0 (as := [xI x9]) mw_X12_isSmall ml_RX12_195 rfl d_X12_next_112 rfl (Nat.le_of_ble_eq_true rfl) (AMet.mono h (aw_toI (fun x11 σ10 h => ?_)))
  refine aw_if_eq (tgt := 131) d_X12_next_115 (by decide) (fun c => ?_) (fun c => ?_)
  · have h := h.1 c
    refine aw_aload_n (i := 0) d_X12_next_131 rfl rfl ?_
    refine aw_iconst (x := 3) d_X12_next_132 (by decide) ?_
    refine aw_putI fl_RX12_192 (by decide) (fin_no (r := (RX12, TX12, 68)) rfl rfl) d_X12_next_133 rfl ⟨rfl, rfl⟩ ?_
    refine aw_goto (tgt := 292) d_X12_next_136 (by decide) ?_
    exact aw_vret d_X12_next_292 rfl h
  · have h := h.2 c
    refine aw_aload_n (i := 0) d_X12_next_118 rfl rfl ?_
    refine aw_dupR d_X12_next_119 ?_
    refine aw_getI fl_RX12_186 rfl d_X12_next_120 ?_
    refine aw_iconst (x := 1) d_X12_next_123 (by decide) ?_
    refine aw_iadd d_X12_next_124 ?_
    refine aw_putI fl_RX12_186 (by decide) (fin_no (r := (RX12, TX12, 68)) rfl rfl) d_X12_next_125 rfl ⟨rfl, rfl⟩ ?_
    refine aw_goto (tgt := 104) d_X12_next_128 (by decide) ?_
    exact h
set_option maxRecDepth 20000 in
theorem vc_X12_next_154 {G : GG} {l : Launch} {d : Nat} {post : Option AVal → AS → Prop} {σ : AS} {kk nn : Nat}  (h : AMet G l M_X12_see d 0 0 [xR (some (13, 0)), xI (gI σ 13 20 0)] σ (retI (fun x13 σ12 => AMet G l M_X12_isDigit d 0 0 [xI x13] σ12 (retI (fun x15 σ14 => (((x15 = 0 → (((((gI σ14 13 20 0) - (gI σ14 13 21 0)) ≤ 5 → post none (sI σ14 13 22 0 2))) ∧ ((¬ ((gI σ14 13 20 0) - (gI σ14 13 21 0)) ≤ 5 → post none (sI σ14 13 22 0 1)))))) ∧ ((¬ x15 = 0 → (((5 ≤ ((gI σ14 13 20 0) - (gI σ14 13 21 0)) → AW G l M_X12_next (d + 1) post (sI σ14 13 20 0 ((gI σ14 13 20 0) + 1)) kk nn 154 [some (xR (some (13, 0))), none] [])) ∧ ((¬ 5 ≤ ((gI σ14 13 20 0) - (gI σ14 13 21 0)) → AMet G l M_X12_see d 0 0 [xR (some (13, 0)), xI (gI σ14 13 20 0)] σ14 (retI (fun x17 σ16 => AW G l M_X12_next (d + 1) post (sI (sI σ16 13 23 0 (((10 * (gI σ14 13 23 0)) + x17) - 48)) 13 20 0 ((gI σ16 13 20 0) + 1)) kk nn 154 [some (xR (some (13, 0))), none] []))))))))))))) : AW G l M_X12_next (d + 1) post σ kk nn 154 [some (xR (some (13, 0))), none] [] := by
  refine aw_aload_n (i := 0) d_X12_next_154 rfl rfl ?_
  refine aw_aload_n (i := 0) d_X12_next_155 rfl rfl ?_
  refine aw_getI fl_RX12_186 rfl d_X12_next_156 ?_
  refine aw_callV0 (as := [xI (gI σ 13 20 0)]) mw_X12_see (by decide +kernel) ml_RX12_198 rfl d_X12_next_159 rfl (Nat.le_of_ble_eq_true rfl) (AMet.mono h (aw_toI (fun x13 σ12 h => ?_)))
  refine aw_callS0 (as := [xI x13]) mw_X12_isDigit ml_RX12_202 rfl d_X12_next_162 rfl (Nat.le_of_ble_eq_true rfl) (AMet.mono h (aw_toI (fun x15 σ14 h => ?_)))
  refine aw_if_eq (tgt := 217) d_X12_next_165 (by decide) (fun c => ?_) (fun c => ?_)
  · have h := h.1 c
    refine aw_aload_n (i := 0) d_X12_next_217 rfl rfl ?_
    refine aw_aload_n (i := 0) d_X12_next_218 rfl rfl ?_
    refine aw_getI fl_RX12_186 rfl d_X12_next_219 ?_
    refine aw_aload_n (i := 0) d_X12_next_222 rfl rfl ?_
    refine aw_getI fl_RX12_189 rfl d_X12_next_223 ?_
    refine aw_isub d_X12_next_226 ?_
    refine aw_iconst (x := 5) d_X12_next_227 (by decide) ?_
    refine aw_icmp_le (tgt := 235) d_X12_next_228 (by decide) (fun c => ?_) (fun c => ?_)
    · have h := h.1 c
      refine aw_iconst (x := 2) d_X12_next_235 (by decide) ?_
      refine aw_putI fl_RX12_192 (by decide) (fin_no (r := (RX12, TX12, 68)) rfl rfl) d_X12_next_236 rfl ⟨rfl, rfl⟩ ?_
      refine aw_goto (tgt := 292) d_X12_next_239 (by decide) ?_
      exact aw_vret d_X12_next_292 rfl h
    · have h := h.2 c
      refine aw_iconst (x := 1) d_X12_next_231 (by decide) ?_
      refine aw_goto (tgt := 236) d_X12_next_232 (by decide) ?_
      refine aw_putI fl_RX12_192 (by decide) (fin_no (r := (RX12, TX12, 68)) rfl rfl) d_X12_next_236 rfl ⟨rfl, rfl⟩ ?_
      refine aw_goto (tgt := 292) d_X12_next_239 (by decide) ?_
      exact aw_vret d_X12_next_292 rfl h
  · have h := h.2 c
    refine aw_aload_n (i := 0) d_X12_next_168 rfl rfl ?_
    refine aw_getI fl_RX12_186 rfl d_X12_next_169 ?_
    refine aw_aload_n (i := 0) d_X12_next_172 rfl rfl ?_
    refine aw_getI fl_RX12_189 rfl d_X12_next_173 ?_
    refine aw_isub d_X12_next_176 ?_
    refine aw_iconst (x := 5) d_X12_next_177 (by decide) ?_
    refine aw_icmp_ge (tgt := 204) d_X12_next_178 (by decide) (fun c => ?_) (fun c => ?_)
    · have h := h.1 c
      refine aw_aload_n (i := 0) d_X12_next_204 rfl rfl ?_
      refine aw_dupR d_X12_next_205 ?_
      refine aw_getI fl_RX12_186 rfl d_X12_next_206 ?_
      refine aw_iconst (x := 1) d_X12_next_209 (by decide) ?_
      refine aw_iadd d_X12_next_210 ?_
      refine aw_putI fl_RX12_186 (by decide) (fin_no (r := (RX12, TX12, 68)) rfl rfl) d_X12_next_211 rfl ⟨rfl, rfl⟩ ?_
      refine aw_goto (tgt := 154) d_X12_next_214 (by decide) ?_
      exact h
    · have h := h.2 c
      refine aw_aload_n (i := 0) d_X12_next_181 rfl rfl ?_
      refine aw_bipush (x := 10) d_X12_next_182 (by decide) ?_
      refine aw_aload_n (i := 0) d_X12_next_184 rfl rfl ?_
      refine aw_getI fl_RX12_205 rfl d_X12_next_185 ?_
      refine aw_imul d_X12_next_188 ?_
      refine aw_aload_n (i := 0) d_X12_next_189 rfl rfl ?_
      refine aw_aload_n (i := 0) d_X12_next_190 rfl rfl ?_
      refine aw_getI fl_RX12_186 rfl d_X12_next_191 ?_
      refine aw_callV0 (as := [xI (gI σ14 13 20 0)]) mw_X12_see (by decide +kernel) ml_RX12_198 rfl d_X12_next_194 rfl (Nat.le_of_ble_eq_true rfl) (AMet.mono h (aw_toI (fun x17 σ16 h => ?_)))
      refine aw_iadd d_X12_next_197 ?_
      refine aw_bipush (x := 48) d_X12_next_198 (by decide) ?_
      refine aw_isub d_X12_next_200 ?_
      refine aw_putI fl_RX12_205 (by decide) (fin_no (r := (RX12, TX12, 68)) rfl rfl) d_X12_next_201 rfl ⟨rfl, rfl⟩ ?_
      refine aw_aload_n (i := 0) d_X12_next_204 rfl rfl ?_
      refine aw_dupR d_X12_next_205 ?_
      refine aw_getIv fl_RX12_186 rfl (x := gI σ16 13 20 0) rfl d_X12_next_206 ?_
      refine aw_iconst (x := 1) d_X12_next_209 (by decide) ?_
      refine aw_iadd d_X12_next_210 ?_
      refine aw_putI fl_RX12_186 (by decide) (fin_no (r := (RX12, TX12, 68)) rfl rfl) d_X12_next_211 rfl ⟨rfl, rfl⟩ ?_
      refine aw_goto (tgt := 154) d_X12_next_214 (by decide) ?_
      exact h
set_option maxRecDepth 20000 in
theorem vc_X12_starts {G : GG} {l : Launch} {d : Nat} {post : Option AVal → AS → Prop} {σ : AS} {kk nn : Nat} {p1 : Nat} {a2 : Int32} {a3 : Int32} (h : AMet G l M_X12_next d 0 0 [xR (some (13, 0))] (sI (sI (sR σ 13 18 0 (some (22, p1))) 13 19 0 a2) 13 20 0 a3) (retV (fun σ1 => post none σ1))) : AW G l M_X12_starts (d + 1) post σ kk nn 0 [some (xR (some (13, 0))), some (xR (some (22, p1))), some (xI a2), some (xI a3)] [] := by
  refine aw_aload_n (i := 0) d_X12_starts_0 rfl rfl ?_
  refine aw_aload_n (i := 1) d_X12_starts_1 rfl rfl ?_
  refine aw_putR fl_RX12_183 (by decide) (fin_no (r := (RX12, TX12, 68)) rfl rfl) d_X12_starts_2 rfl (by decide) ?_
  refine aw_aload_n (i := 0) d_X12_starts_5 rfl rfl ?_
  refine aw_iload_n (i := 2) d_X12_starts_6 rfl rfl ?_
  refine aw_putI fl_RX12_180 (by decide) (fin_no (r := (RX12, TX12, 68)) rfl rfl) d_X12_starts_7 rfl ⟨rfl, rfl⟩ ?_
  refine aw_aload_n (i := 0) d_X12_starts_10 rfl rfl ?_
  refine aw_iload_n (i := 3) d_X12_starts_11 rfl rfl ?_
  refine aw_putI fl_RX12_186 (by decide) (fin_no (r := (RX12, TX12, 68)) rfl rfl) d_X12_starts_12 rfl ⟨rfl, rfl⟩ ?_
  refine aw_aload_n (i := 0) d_X12_starts_15 rfl rfl ?_
  refine aw_callV0 (as := []) mw_X12_next (by decide +kernel) ml_RX12_208 rfl d_X12_starts_16 rfl (Nat.le_of_ble_eq_true rfl) (AMet.mono h (aw_toV (fun σ1 h => ?_)))
  exact aw_vret d_X12_starts_19 rfl h
set_option maxRecDepth 20000 in
theorem vc_X12_isWord {G : GG} {l : Launch} {d : Nat} {post : Option AVal → AS → Prop} {σ : AS} {kk nn : Nat} {p1 : Nat} (h : (((¬ (gI σ 13 22 0) = 3 → post (some (xI 0)) σ)) ∧ (((gI σ 13 22 0) = 3 → AMet G l M_J0_length_8abf5 d 0 0 [xR (some (30, p1))] σ (retI (fun x2 σ1 => (((((gI σ 13 20 0) - (gI σ 13 21 0)) = x2 → AW G l M_X12_isWord (d + 1) post σ1 kk nn 28 [some (xR (some (13, 0))), some (xR (some (30, p1))), some (xI 0)] [])) ∧ ((¬ ((gI σ 13 20 0) - (gI σ 13 21 0)) = x2 → post (some (xI 0)) σ1))))))))) : AW G l M_X12_isWord (d + 1) post σ kk nn 0 [some (xR (some (13, 0))), some (xR (some (30, p1))), none] [] := by
  refine aw_aload_n (i := 0) d_X12_isWord_0 rfl rfl ?_
  refine aw_getI fl_RX12_192 rfl d_X12_isWord_1 ?_
  refine aw_iconst (x := 3) d_X12_isWord_4 (by decide) ?_
  refine aw_icmp_ne (tgt := 24) d_X12_isWord_5 (by decide) (fun c => ?_) (fun c => ?_)
  · have h := h.1 c
    refine aw_iconst (x := 0) d_X12_isWord_24 (by decide) ?_
    exact aw_ret d_X12_isWord_25 rfl (by decide) h
  · have h := h.2 c
    refine aw_aload_n (i := 0) d_X12_isWord_8 rfl rfl ?_
    refine aw_getI fl_RX12_186 rfl d_X12_isWord_9 ?_
    refine aw_aload_n (i := 0) d_X12_isWord_12 rfl rfl ?_
    refine aw_getI fl_RX12_189 rfl d_X12_isWord_13 ?_
    refine aw_isub d_X12_isWord_16 ?_
    refine aw_aload_n (i := 1) d_X12_isWord_17 rfl rfl ?_
    refine aw_callV0 (as := []) mw_J0_length_8abf5 (by decide +kernel) ml_RX12_211 rfl d_X12_isWord_18 rfl (Nat.le_of_ble_eq_true rfl) (AMet.mono h (aw_toI (fun x2 σ1 h => ?_)))
    refine aw_icmp_eq (tgt := 26) d_X12_isWord_21 (by decide) (fun c => ?_) (fun c => ?_)
    · have h := h.1 c
      refine aw_iconst (x := 0) d_X12_isWord_26 (by decide) ?_
      refine aw_istore_n (i := 2) d_X12_isWord_27 rfl (by decide) ?_
      exact h
    · have h := h.2 c
      refine aw_iconst (x := 0) d_X12_isWord_24 (by decide) ?_
      exact aw_ret d_X12_isWord_25 rfl (by decide) h
set_option maxRecDepth 20000 in
theorem vc_X12_isWord_28 {G : GG} {l : Launch} {d : Nat} {post : Option AVal → AS → Prop} {σ : AS} {kk nn : Nat} {v1 : Nat} {v2 : Int32} (h : AMet G l M_J0_length_8abf5 d 0 0 [xR (some (30, v1))] σ (retI (fun x4 σ3 => (((x4 ≤ v2 → post (some (xI 1)) σ3)) ∧ ((¬ x4 ≤ v2 → (∃ j5 : Nat, ((gR σ3 13 18 0) = some (22, j5) ∧ (vp_in ((gI σ3 13 21 0) + v2) (gN σ3 22 j5) ∧ (AMet G l M_J0_charAt_5068e d 0 0 [xR (some (30, v1)), xI v2] σ3 (retI (fun x7 σ6 => ((((gA σ3 22 j5 ((gI σ3 13 21 0) + v2).toNatClampNeg) = x7 → AW G l M_X12_isWord (d + 1) post σ6 kk nn 28 [some (xR (some (13, 0))), some (xR (some (30, v1))), some (xI (v2 + 1))] [])) ∧ ((¬ (gA σ3 22 j5 ((gI σ3 13 21 0) + v2).toNatClampNeg) = x7 → post (some (xI 0)) σ6))))))))))))))) : AW G l M_X12_isWord (d + 1) post σ kk nn 28 [some (xR (some (13, 0))), some (xR (some (30, v1))), some (xI v2)] [] := by
  refine aw_iload_n (i := 2) d_X12_isWord_28 rfl rfl ?_
  refine aw_aload_n (i := 1) d_X12_isWord_29 rfl rfl ?_
  refine aw_callV0 (as := []) mw_J0_length_8abf5 (by decide +kernel) ml_RX12_211 rfl d_X12_isWord_30 rfl (Nat.le_of_ble_eq_true rfl) (AMet.mono h (aw_toI (fun x4 σ3 h => ?_)))
  refine aw_icmp_ge (tgt := 63) d_X12_isWord_33 (by decide) (fun c => ?_) (fun c => ?_)
  · have h := h.1 c
    refine aw_iconst (x := 1) d_X12_isWord_63 (by decide) ?_
    exact aw_ret d_X12_isWord_64 rfl (by decide) h
  · have h := h.2 c
    refine aw_aload_n (i := 0) d_X12_isWord_36 rfl rfl ?_
    refine aw_getR fl_RX12_183 rfl d_X12_isWord_37 ?_
    refine aw_aload_n (i := 0) d_X12_isWord_40 rfl rfl ?_
    refine aw_getI fl_RX12_189 rfl d_X12_isWord_41 ?_
    refine aw_iload_n (i := 2) d_X12_isWord_44 rfl rfl ?_
    refine aw_iadd d_X12_isWord_45 ?_
    obtain ⟨j5, ej5, h⟩ := h
    rw [ej5]
    obtain ⟨hq, h⟩ := h
    refine aw_bald d_X12_isWord_46 hq ?_
    refine aw_aload_n (i := 1) d_X12_isWord_47 rfl rfl ?_
    refine aw_iload_n (i := 2) d_X12_isWord_48 rfl rfl ?_
    refine aw_callV0 (as := [xI v2]) mw_J0_charAt_5068e (by decide +kernel) ml_RX12_217 rfl d_X12_isWord_49 rfl (Nat.le_of_ble_eq_true rfl) (AMet.mono h (aw_toI (fun x7 σ6 h => ?_)))
    refine aw_icmp_eq (tgt := 57) d_X12_isWord_52 (by decide) (fun c => ?_) (fun c => ?_)
    · have h := h.1 c
      refine aw_iinc (i := 2) (v := v2 + 1) d_X12_isWord_57 rfl rfl (by decide) ?_
      refine aw_goto (tgt := 28) d_X12_isWord_60 (by decide) ?_
      exact h
    · have h := h.2 c
      refine aw_iconst (x := 0) d_X12_isWord_55 (by decide) ?_
      exact aw_ret d_X12_isWord_56 rfl (by decide) h
set_option maxRecDepth 20000 in
theorem vc_X12_is {G : GG} {l : Launch} {d : Nat} {post : Option AVal → AS → Prop} {σ : AS} {kk nn : Nat} {a1 : Int32} (h : (((¬ (gI σ 13 22 0) = 4 → post (some (xI 0)) σ)) ∧ (((gI σ 13 22 0) = 4 → (((¬ (gI σ 13 23 0) = a1 → post (some (xI 0)) σ)) ∧ (((gI σ 13 23 0) = a1 → post (some (xI 1)) σ))))))) : AW G l M_X12_is d post σ kk nn 0 [some (xR (some (13, 0))), some (xI a1)] [] := by
  refine aw_aload_n (i := 0) d_X12_is_0 rfl rfl ?_
  refine aw_getI fl_RX12_192 rfl d_X12_is_1 ?_
  refine aw_iconst (x := 4) d_X12_is_4 (by decide) ?_
  refine aw_icmp_ne (tgt := 20) d_X12_is_5 (by decide) (fun c => ?_) (fun c => ?_)
  · have h := h.1 c
    refine aw_iconst (x := 0) d_X12_is_20 (by decide) ?_
    exact aw_ret d_X12_is_21 rfl (by decide) h
  · have h := h.2 c
    refine aw_aload_n (i := 0) d_X12_is_8 rfl rfl ?_
    refine aw_getI fl_RX12_205 rfl d_X12_is_9 ?_
    refine aw_iload_n (i := 1) d_X12_is_12 rfl rfl ?_
    refine aw_icmp_ne (tgt := 20) d_X12_is_13 (by decide) (fun c => ?_) (fun c => ?_)
    · have h := h.1 c
      refine aw_iconst (x := 0) d_X12_is_20 (by decide) ?_
      exact aw_ret d_X12_is_21 rfl (by decide) h
    · have h := h.2 c
      refine aw_iconst (x := 1) d_X12_is_16 (by decide) ?_
      refine aw_goto (tgt := 21) d_X12_is_17 (by decide) ?_
      exact aw_ret d_X12_is_21 rfl (by decide) h
set_option maxRecDepth 20000 in
theorem vc_X12_fails {G : GG} {l : Launch} {d : Nat} {post : Option AVal → AS → Prop} {σ : AS} {kk nn : Nat} {a1 : Int32} (h : ((((gI σ 13 24 0) = 0 → post none (sI (sI σ 13 24 0 a1) 13 25 0 (gI σ 13 21 0)))) ∧ ((¬ (gI σ 13 24 0) = 0 → post none σ)))) : AW G l M_X12_fails d post σ kk nn 0 [some (xR (some (13, 0))), some (xI a1)] [] := by
  refine aw_aload_n (i := 0) d_X12_fails_0 rfl rfl ?_
  refine aw_getI fl_RX12_221 rfl d_X12_fails_1 ?_
  refine aw_if_eq (tgt := 8) d_X12_fails_4 (by decide) (fun c => ?_) (fun c => ?_)
  · have h := h.1 c
    refine aw_aload_n (i := 0) d_X12_fails_8 rfl rfl ?_
    refine aw_iload_n (i := 1) d_X12_fails_9 rfl rfl ?_
    refine aw_putI fl_RX12_221 (by decide) (fin_no (r := (RX12, TX12, 68)) rfl rfl) d_X12_fails_10 rfl ⟨rfl, rfl⟩ ?_
    refine aw_aload_n (i := 0) d_X12_fails_13 rfl rfl ?_
    refine aw_aload_n (i := 0) d_X12_fails_14 rfl rfl ?_
    refine aw_getIv fl_RX12_189 rfl (x := gI σ 13 21 0) rfl d_X12_fails_15 ?_
    refine aw_putI fl_RX12_224 (by decide) (fin_no (r := (RX12, TX12, 68)) rfl rfl) d_X12_fails_18 rfl ⟨rfl, rfl⟩ ?_
    exact aw_vret d_X12_fails_21 rfl h
  · have h := h.2 c
    exact aw_vret d_X12_fails_7 rfl h
set_option maxRecDepth 20000 in
theorem vc_X12_wants {G : GG} {l : Launch} {d : Nat} {post : Option AVal → AS → Prop} {σ : AS} {kk nn : Nat} {a1 : Int32} (h : ((((gI σ 13 24 0) = 0 → AMet G l M_X12_is d 0 0 [xR (some (13, 0)), xI a1] σ (retI (fun x2 σ1 => (((x2 = 0 → AMet G l M_X12_fails d 0 0 [xR (some (13, 0)), xI 1] σ1 (retV (fun σ3 => post none σ3)))) ∧ ((¬ x2 = 0 → AMet G l M_X12_next d 0 0 [xR (some (13, 0))] σ1 (retV (fun σ4 => post none σ4))))))))) ∧ ((¬ (gI σ 13 24 0) = 0 → post none σ)))) : AW G l M_X12_wants (d + 1) post σ kk nn 0 [some (xR (some (13, 0))), some (xI a1)] [] := by
  refine aw_aload_n (i := 0) d_X12_wants_0 rfl rfl ?_
  refine aw_getI fl_RX12_221 rfl d_X12_wants_1 ?_
  refine aw_if_eq (tgt := 8) d_X12_wants_4 (by decide) (fun c => ?_) (fun c => ?_)
  · have h := h.1 c
    refine aw_aload_n (i := 0) d_X12_wants_8 rfl rfl ?_
    refine aw_iload_n (i := 1) d_X12_wants_9 rfl rfl ?_
    refine aw_callV0 (as := [xI a1]) mw_X12_is (by decide +kernel) ml_RX12_227 rfl d_X12_wants_10 rfl (Nat.le_of_ble_eq_true rfl) (AMet.mono h (aw_toI (fun x2 σ1 h => ?_)))
    refine aw_if_eq (tgt := 23) d_X12_wants_13 (by decide) (fun c => ?_) (fun c => ?_)
    · have h := h.1 c
      refine aw_aload_n (i := 0) d_X12_wants_23 rfl rfl ?_
      refine aw_iconst (x := 1) d_X12_wants_24 (by decide) ?_
      refine aw_callV0 (as := [xI 1]) mw_X12_fails (by decide +kernel) ml_RX12_230 rfl d_X12_wants_25 rfl (Nat.le_of_ble_eq_true rfl) (AMet.mono h (aw_toV (fun σ3 h => ?_)))
      exact aw_vret d_X12_wants_28 rfl h
    · have h := h.2 c
      refine aw_aload_n (i := 0) d_X12_wants_16 rfl rfl ?_
      refine aw_callV0 (as := []) mw_X12_next (by decide +kernel) ml_RX12_208 rfl d_X12_wants_17 rfl (Nat.le_of_ble_eq_true rfl) (AMet.mono h (aw_toV (fun σ4 h => ?_)))
      refine aw_goto (tgt := 28) d_X12_wants_20 (by decide) ?_
      exact aw_vret d_X12_wants_28 rfl h
  · have h := h.2 c
    exact aw_vret d_X12_wants_7 rfl h
set_option maxRecDepth 20000 in
theorem vc_X12_wants_ {G : GG} {l : Launch} {d : Nat} {post : Option AVal → AS → Prop} {σ : AS} {kk nn : Nat} {p1 : Nat} (h : ((((gI σ 13 24 0) = 0 → AMet G l M_X12_isWord d 0 0 [xR (some (13, 0)), xR (some (30, p1))] σ (retI (fun x2 σ1 => (((x2 = 0 → AMet G l M_X12_fails d 0 0 [xR (some (13, 0)), xI 1] σ1 (retV (fun σ3 => post none σ3)))) ∧ ((¬ x2 = 0 → AMet G l M_X12_next d 0 0 [xR (some (13, 0))] σ1 (retV (fun σ4 => post none σ4))))))))) ∧ ((¬ (gI σ 13 24 0) = 0 → post none σ)))) : AW G l M_X12_wants_ (d + 1) post σ kk nn 0 [some (xR (some (13, 0))), some (xR (some (30, p1)))] [] := by
  refine aw_aload_n (i := 0) d_X12_wants__0 rfl rfl ?_
  refine aw_getI fl_RX12_221 rfl d_X12_wants__1 ?_
  refine aw_if_eq (tgt := 8) d_X12_wants__4 (by decide) (fun c => ?_) (fun c => ?_)
  · have h := h.1 c
    refine aw_aload_n (i := 0) d_X12_wants__8 rfl rfl ?_
    refine aw_aload_n (i := 1) d_X12_wants__9 rfl rfl ?_
    refine aw_callV0 (as := [xR (some (30, p1))]) mw_X12_isWord (by decide +kernel) ml_RX12_234 rfl d_X12_wants__10 rfl (Nat.le_of_ble_eq_true rfl) (AMet.mono h (aw_toI (fun x2 σ1 h => ?_)))
    refine aw_if_eq (tgt := 23) d_X12_wants__13 (by decide) (fun c => ?_) (fun c => ?_)
    · have h := h.1 c
      refine aw_aload_n (i := 0) d_X12_wants__23 rfl rfl ?_
      refine aw_iconst (x := 1) d_X12_wants__24 (by decide) ?_
      refine aw_callV0 (as := [xI 1]) mw_X12_fails (by decide +kernel) ml_RX12_230 rfl d_X12_wants__25 rfl (Nat.le_of_ble_eq_true rfl) (AMet.mono h (aw_toV (fun σ3 h => ?_)))
      exact aw_vret d_X12_wants__28 rfl h
    · have h := h.2 c
      refine aw_aload_n (i := 0) d_X12_wants__16 rfl rfl ?_
      refine aw_callV0 (as := []) mw_X12_next (by decide +kernel) ml_RX12_208 rfl d_X12_wants__17 rfl (Nat.le_of_ble_eq_true rfl) (AMet.mono h (aw_toV (fun σ4 h => ?_)))
      refine aw_goto (tgt := 28) d_X12_wants__20 (by decide) ?_
      exact aw_vret d_X12_wants__28 rfl h
  · have h := h.2 c
    exact aw_vret d_X12_wants__7 rfl h
set_option maxRecDepth 20000 in
theorem vc_X12_number {G : GG} {l : Launch} {d : Nat} {post : Option AVal → AS → Prop} {σ : AS} {kk nn : Nat} {a1 : Int32} {a2 : Int32} (h : ((((gI σ 13 24 0) = 0 → ((((gI σ 13 22 0) = 2 → AMet G l M_X12_within d 0 0 [xI (gI σ 13 23 0), xI a1, xI a2] σ (retI (fun x2 σ1 => (((¬ x2 = 0 → AMet G l M_X12_next d 0 0 [xR (some (13, 0))] σ1 (retV (fun σ3 => post (some (xI (gI σ1 13 23 0))) σ3)))) ∧ ((x2 = 0 → AMet G l M_X12_fails d 0 0 [xR (some (13, 0)), xI 2] σ1 (retV (fun σ4 => post (some (xI 0)) σ4))))))))) ∧ ((¬ (gI σ 13 22 0) = 2 → AMet G l M_X12_fails d 0 0 [xR (some (13, 0)), xI 1] σ (retV (fun σ5 => post (some (xI 0)) σ5))))))) ∧ ((¬ (gI σ 13 24 0) = 0 → post (some (xI 0)) σ)))) : AW G l M_X12_number (d + 1) post σ kk nn 0 [some (xR (some (13, 0))), some (xI a1), some (xI a2), none] [] := by
  refine aw_aload_n (i := 0) d_X12_number_0 rfl rfl ?_
  refine aw_getI fl_RX12_221 rfl d_X12_number_1 ?_
  refine aw_if_eq (tgt := 9) d_X12_number_4 (by decide) (fun c => ?_) (fun c => ?_)
  · have h := h.1 c
    refine aw_aload_n (i := 0) d_X12_number_9 rfl rfl ?_
    refine aw_getI fl_RX12_192 rfl d_X12_number_10 ?_
    refine aw_iconst (x := 2) d_X12_number_13 (by decide) ?_
    refine aw_icmp_eq (tgt := 24) d_X12_number_14 (by decide) (fun c => ?_) (fun c => ?_)
    · have h := h.1 c
      refine aw_aload_n (i := 0) d_X12_number_24 rfl rfl ?_
      refine aw_getI fl_RX12_205 rfl d_X12_number_25 ?_
      refine aw_iload_n (i := 1) d_X12_number_28 rfl rfl ?_
      refine aw_iload_n (i := 2) d_X12_number_29 rfl rfl ?_
      refine aw_callS0 (as := [xI (gI σ 13 23 0), xI a1, xI a2]) mw_X12_within ml_RX12_154 rfl d_X12_number_30 rfl (Nat.le_of_ble_eq_true rfl) (AMet.mono h (aw_toI (fun x2 σ1 h => ?_)))
      refine aw_if_ne (tgt := 43) d_X12_number_33 (by decide) (fun c => ?_) (fun c => ?_)
      · have h := h.1 c
        refine aw_aload_n (i := 0) d_X12_number_43 rfl rfl ?_
        refine aw_getI fl_RX12_205 rfl d_X12_number_44 ?_
        refine aw_istore_n (i := 3) d_X12_number_47 rfl (by decide) ?_
        refine aw_aload_n (i := 0) d_X12_number_48 rfl rfl ?_
        refine aw_callV0 (as := []) mw_X12_next (by decide +kernel) ml_RX12_208 rfl d_X12_number_49 rfl (Nat.le_of_ble_eq_true rfl) (AMet.mono h (aw_toV (fun σ3 h => ?_)))
        refine aw_iload_n (i := 3) d_X12_number_52 rfl rfl ?_
        exact aw_ret d_X12_number_53 rfl rfl h
      · have h := h.2 c
        refine aw_aload_n (i := 0) d_X12_number_36 rfl rfl ?_
        refine aw_iconst (x := 2) d_X12_number_37 (by decide) ?_
        refine aw_callV0 (as := [xI 2]) mw_X12_fails (by decide +kernel) ml_RX12_230 rfl d_X12_number_38 rfl (Nat.le_of_ble_eq_true rfl) (AMet.mono h (aw_toV (fun σ4 h => ?_)))
        refine aw_iconst (x := 0) d_X12_number_41 (by decide) ?_
        exact aw_ret d_X12_number_42 rfl rfl h
    · have h := h.2 c
      refine aw_aload_n (i := 0) d_X12_number_17 rfl rfl ?_
      refine aw_iconst (x := 1) d_X12_number_18 (by decide) ?_
      refine aw_callV0 (as := [xI 1]) mw_X12_fails (by decide +kernel) ml_RX12_230 rfl d_X12_number_19 rfl (Nat.le_of_ble_eq_true rfl) (AMet.mono h (aw_toV (fun σ5 h => ?_)))
      refine aw_iconst (x := 0) d_X12_number_22 (by decide) ?_
      exact aw_ret d_X12_number_23 rfl rfl h
  · have h := h.2 c
    refine aw_iconst (x := 0) d_X12_number_7 (by decide) ?_
    exact aw_ret d_X12_number_8 rfl rfl h
set_option maxRecDepth 20000 in
theorem vc_X12_either {G : GG} {l : Launch} {d : Nat} {post : Option AVal → AS → Prop} {σ : AS} {kk nn : Nat} {a1 : Int32} (h : AMet G l M_X12_all d 0 0 [xR (some (13, 0)), xI a1] σ (retI (fun x2 σ1 => AW G l M_X12_either (d + 1) post σ1 kk nn 6 [some (xR (some (13, 0))), some (xI a1), some (xI x2), none] []))) : AW G l M_X12_either (d + 1) post σ kk nn 0 [some (xR (some (13, 0))), some (xI a1), none, none] [] := by
  refine aw_aload_n (i := 0) d_X12_either_0 rfl rfl ?_
  refine aw_iload_n (i := 1) d_X12_either_1 rfl rfl ?_
  refine aw_callV0 (as := [xI a1]) mw_X12_all (by decide +kernel) ml_RX12_238 rfl d_X12_either_2 rfl (Nat.le_of_ble_eq_true rfl) (AMet.mono h (aw_toI (fun x2 σ1 h => ?_)))
  refine aw_istore_n (i := 2) d_X12_either_5 rfl (by decide) ?_
  exact h
set_option maxRecDepth 20000 in
theorem vc_X12_either_6 {G : GG} {l : Launch} {d : Nat} {post : Option AVal → AS → Prop} {σ : AS} {kk nn : Nat} {v1 : Int32} {v2 : Int32} (h : (((¬ (gI σ 13 24 0) = 0 → (narrow .boolean (.int v2) = .int v2 ∧ post (some (xI v2)) σ))) ∧ (((gI σ 13 24 0) = 0 → AMet G l M_X12_isWord d 0 0 [xR (some (13, 0)), xR (some (30, 12))] σ (retI (fun x4 σ3 => (((x4 = 0 → (narrow .boolean (.int v2) = .int v2 ∧ post (some (xI v2)) σ3))) ∧ ((¬ x4 = 0 → AMet G l M_X12_next d 0 0 [xR (some (13, 0))] σ3 (retV (fun σ5 => AMet G l M_X12_all d 0 0 [xR (some (13, 0)), xI v1] σ5 (retI (fun x7 σ6 => (((¬ v2 = 0 → AW G l M_X12_either (d + 1) post σ6 kk nn 6 [some (xR (some (13, 0))), some (xI v1), some (xI 1), none] [])) ∧ ((v2 = 0 → (((x7 = 0 → AW G l M_X12_either (d + 1) post σ6 kk nn 6 [some (xR (some (13, 0))), some (xI v1), some (xI 0), none] [])) ∧ ((¬ x7 = 0 → AW G l M_X12_either (d + 1) post σ6 kk nn 6 [some (xR (some (13, 0))), some (xI v1), some (xI 1), none] []))))))))))))))))))) : AW G l M_X12_either (d + 1) post σ kk nn 6 [some (xR (some (13, 0))), some (xI v1), some (xI v2), none] [] := by
  refine aw_aload_n (i := 0) d_X12_either_6 rfl rfl ?_
  refine aw_getI fl_RX12_221 rfl d_X12_either_7 ?_
  refine aw_if_ne (tgt := 49) d_X12_either_10 (by decide) (fun c => ?_) (fun c => ?_)
  · have h := h.1 c
    refine aw_iload_n (i := 2) d_X12_either_49 rfl rfl ?_
    exact aw_ret d_X12_either_50 rfl h.1 h.2
  · have h := h.2 c
    refine aw_aload_n (i := 0) d_X12_either_13 rfl rfl ?_
    refine aw_ldcS (tx := "or") (i := 12) (by decide +kernel) (by decide) d_X12_either_14 ?_
    refine aw_callV0 (as := [xR (some (30, 12))]) mw_X12_isWord (by decide +kernel) ml_RX12_234 rfl d_X12_either_16 rfl (Nat.le_of_ble_eq_true rfl) (AMet.mono h (aw_toI (fun x4 σ3 h => ?_)))
    refine aw_if_eq (tgt := 49) d_X12_either_19 (by decide) (fun c => ?_) (fun c => ?_)
    · have h := h.1 c
      refine aw_iload_n (i := 2) d_X12_either_49 rfl rfl ?_
      exact aw_ret d_X12_either_50 rfl h.1 h.2
    · have h := h.2 c
      refine aw_aload_n (i := 0) d_X12_either_22 rfl rfl ?_
      refine aw_callV0 (as := []) mw_X12_next (by decide +kernel) ml_RX12_208 rfl d_X12_either_23 rfl (Nat.le_of_ble_eq_true rfl) (AMet.mono h (aw_toV (fun σ5 h => ?_)))
      refine aw_aload_n (i := 0) d_X12_either_26 rfl rfl ?_
      refine aw_iload_n (i := 1) d_X12_either_27 rfl rfl ?_
      refine aw_callV0 (as := [xI v1]) mw_X12_all (by decide +kernel) ml_RX12_238 rfl d_X12_either_28 rfl (Nat.le_of_ble_eq_true rfl) (AMet.mono h (aw_toI (fun x7 σ6 h => ?_)))
      refine aw_istore_n (i := 3) d_X12_either_31 rfl (by decide) ?_
      refine aw_iload_n (i := 2) d_X12_either_32 rfl rfl ?_
      refine aw_if_ne (tgt := 40) d_X12_either_33 (by decide) (fun c => ?_) (fun c => ?_)
      · have h := h.1 c
        refine aw_iconst (x := 1) d_X12_either_40 (by decide) ?_
        refine aw_goto (tgt := 45) d_X12_either_41 (by decide) ?_
        refine aw_istore_n (i := 2) d_X12_either_45 rfl (by decide) ?_
        refine aw_goto (tgt := 6) d_X12_either_46 (by decide) ?_
        exact AW.weak h (by exact ⟨rfl, ⟨rfl, ⟨rfl, trivial⟩⟩⟩)
      · have h := h.2 c
        refine aw_iload_n (i := 3) d_X12_either_36 rfl rfl ?_
        refine aw_if_eq (tgt := 44) d_X12_either_37 (by decide) (fun c => ?_) (fun c => ?_)
        · have h := h.1 c
          refine aw_iconst (x := 0) d_X12_either_44 (by decide) ?_
          refine aw_istore_n (i := 2) d_X12_either_45 rfl (by decide) ?_
          refine aw_goto (tgt := 6) d_X12_either_46 (by decide) ?_
          exact AW.weak h (by exact ⟨rfl, ⟨rfl, ⟨rfl, trivial⟩⟩⟩)
        · have h := h.2 c
          refine aw_iconst (x := 1) d_X12_either_40 (by decide) ?_
          refine aw_goto (tgt := 45) d_X12_either_41 (by decide) ?_
          refine aw_istore_n (i := 2) d_X12_either_45 rfl (by decide) ?_
          refine aw_goto (tgt := 6) d_X12_either_46 (by decide) ?_
          exact AW.weak h (by exact ⟨rfl, ⟨rfl, ⟨rfl, trivial⟩⟩⟩)
set_option maxRecDepth 20000 in
theorem vc_X12_all {G : GG} {l : Launch} {d : Nat} {post : Option AVal → AS → Prop} {σ : AS} {kk nn : Nat} {a1 : Int32} (h : AMet G l M_X12_one d 0 0 [xR (some (13, 0)), xI a1] σ (retI (fun x2 σ1 => AW G l M_X12_all (d + 1) post σ1 kk nn 6 [some (xR (some (13, 0))), some (xI a1), some (xI x2), none] []))) : AW G l M_X12_all (d + 1) post σ kk nn 0 [some (xR (some (13, 0))), some (xI a1), none, none] [] := by
  refine aw_aload_n (i := 0) d_X12_all_0 rfl rfl ?_
  refine aw_iload_n (i := 1) d_X12_all_1 rfl rfl ?_
  refine aw_callV0 (as := [xI a1]) mw_X12_one (by decide +kernel) ml_RX12_243 rfl d_X12_all_2 rfl (Nat.le_of_ble_eq_true rfl) (AMet.mono h (aw_toI (fun x2 σ1 h => ?_)))
  refine aw_istore_n (i := 2) d_X12_all_5 rfl (by decide) ?_
  exact h
set_option maxRecDepth 20000 in
theorem vc_X12_all_6 {G : GG} {l : Launch} {d : Nat} {post : Option AVal → AS → Prop} {σ : AS} {kk nn : Nat} {v1 : Int32} {v2 : Int32} (h : (((¬ (gI σ 13 24 0) = 0 → (narrow .boolean (.int v2) = .int v2 ∧ post (some (xI v2)) σ))) ∧ (((gI σ 13 24 0) = 0 → AMet G l M_X12_isWord d 0 0 [xR (some (13, 0)), xR (some (30, 11))] σ (retI (fun x4 σ3 => (((x4 = 0 → (narrow .boolean (.int v2) = .int v2 ∧ post (some (xI v2)) σ3))) ∧ ((¬ x4 = 0 → AMet G l M_X12_next d 0 0 [xR (some (13, 0))] σ3 (retV (fun σ5 => AMet G l M_X12_one d 0 0 [xR (some (13, 0)), xI v1] σ5 (retI (fun x7 σ6 => (((v2 = 0 → AW G l M_X12_all (d + 1) post σ6 kk nn 6 [some (xR (some (13, 0))), some (xI v1), some (xI 0), none] [])) ∧ ((¬ v2 = 0 → (((x7 = 0 → AW G l M_X12_all (d + 1) post σ6 kk nn 6 [some (xR (some (13, 0))), some (xI v1), some (xI 0), none] [])) ∧ ((¬ x7 = 0 → AW G l M_X12_all (d + 1) post σ6 kk nn 6 [some (xR (some (13, 0))), some (xI v1), some (xI 1), none] []))))))))))))))))))) : AW G l M_X12_all (d + 1) post σ kk nn 6 [some (xR (some (13, 0))), some (xI v1), some (xI v2), none] [] := by
  refine aw_aload_n (i := 0) d_X12_all_6 rfl rfl ?_
  refine aw_getI fl_RX12_221 rfl d_X12_all_7 ?_
  refine aw_if_ne (tgt := 49) d_X12_all_10 (by decide) (fun c => ?_) (fun c => ?_)
  · have h := h.1 c
    refine aw_iload_n (i := 2) d_X12_all_49 rfl rfl ?_
    exact aw_ret d_X12_all_50 rfl h.1 h.2
  · have h := h.2 c
    refine aw_aload_n (i := 0) d_X12_all_13 rfl rfl ?_
    refine aw_ldcS (tx := "and") (i := 11) (by decide +kernel) (by decide) d_X12_all_14 ?_
    refine aw_callV0 (as := [xR (some (30, 11))]) mw_X12_isWord (by decide +kernel) ml_RX12_234 rfl d_X12_all_16 rfl (Nat.le_of_ble_eq_true rfl) (AMet.mono h (aw_toI (fun x4 σ3 h => ?_)))
    refine aw_if_eq (tgt := 49) d_X12_all_19 (by decide) (fun c => ?_) (fun c => ?_)
    · have h := h.1 c
      refine aw_iload_n (i := 2) d_X12_all_49 rfl rfl ?_
      exact aw_ret d_X12_all_50 rfl h.1 h.2
    · have h := h.2 c
      refine aw_aload_n (i := 0) d_X12_all_22 rfl rfl ?_
      refine aw_callV0 (as := []) mw_X12_next (by decide +kernel) ml_RX12_208 rfl d_X12_all_23 rfl (Nat.le_of_ble_eq_true rfl) (AMet.mono h (aw_toV (fun σ5 h => ?_)))
      refine aw_aload_n (i := 0) d_X12_all_26 rfl rfl ?_
      refine aw_iload_n (i := 1) d_X12_all_27 rfl rfl ?_
      refine aw_callV0 (as := [xI v1]) mw_X12_one (by decide +kernel) ml_RX12_243 rfl d_X12_all_28 rfl (Nat.le_of_ble_eq_true rfl) (AMet.mono h (aw_toI (fun x7 σ6 h => ?_)))
      refine aw_istore_n (i := 3) d_X12_all_31 rfl (by decide) ?_
      refine aw_iload_n (i := 2) d_X12_all_32 rfl rfl ?_
      refine aw_if_eq (tgt := 44) d_X12_all_33 (by decide) (fun c => ?_) (fun c => ?_)
      · have h := h.1 c
        refine aw_iconst (x := 0) d_X12_all_44 (by decide) ?_
        refine aw_istore_n (i := 2) d_X12_all_45 rfl (by decide) ?_
        refine aw_goto (tgt := 6) d_X12_all_46 (by decide) ?_
        exact AW.weak h (by exact ⟨rfl, ⟨rfl, ⟨rfl, trivial⟩⟩⟩)
      · have h := h.2 c
        refine aw_iload_n (i := 3) d_X12_all_36 rfl rfl ?_
        refine aw_if_eq (tgt := 44) d_X12_all_37 (by decide) (fun c => ?_) (fun c => ?_)
        · have h := h.1 c
          refine aw_iconst (x := 0) d_X12_all_44 (by decide) ?_
          refine aw_istore_n (i := 2) d_X12_all_45 rfl (by decide) ?_
          refine aw_goto (tgt := 6) d_X12_all_46 (by decide) ?_
          exact AW.weak h (by exact ⟨rfl, ⟨rfl, ⟨rfl, trivial⟩⟩⟩)
        · have h := h.2 c
          refine aw_iconst (x := 1) d_X12_all_40 (by decide) ?_
          refine aw_goto (tgt := 45) d_X12_all_41 (by decide) ?_
          refine aw_istore_n (i := 2) d_X12_all_45 rfl (by decide) ?_
          refine aw_goto (tgt := 6) d_X12_all_46 (by decide) ?_
          exact AW.weak h (by exact ⟨rfl, ⟨rfl, ⟨rfl, trivial⟩⟩⟩)
