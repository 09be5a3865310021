set_option maxRecDepth 20000 in
theorem vc_X12_one {G : GG} {l : Launch} {d : Nat} {post : Option AVal → AS → Prop} {σ : AS} {kk nn : Nat} {a1 : Int32} (h : ((((gI σ 13 24 0) = 0 → AMet G l M_X12_isWord d 0 0 [xR (some (13, 0)), xR (some (30, 4))] σ (retI (fun x2 σ1 => (((¬ x2 = 0 → AW G l M_X12_one (d + 1) post σ1 kk nn 29 [some (xR (some (13, 0))), some (xI a1), some (xI x2), none, none, none, none] [])) ∧ ((x2 = 0 → AMet G l M_X12_is d 0 0 [xR (some (13, 0)), xI 40] σ1 (retI (fun x4 σ3 => (((x4 = 0 → AMet G l M_X12_isWord d 0 0 [xR (some (13, 0)), xR (some (30, 5))] σ3 (retI (fun x6 σ5 => (((x6 = 0 → AMet G l M_X12_isWord d 0 0 [xR (some (13, 0)), xR (some (30, 6))] σ5 (retI (fun x8 σ7 => (((x8 = 0 → AMet G l M_X12_isWord d 0 0 [xR (some (13, 0)), xR (some (30, 7))] σ7 (retI (fun x10 σ9 => (((x10 = 0 → AMet G l M_X12_isWord d 0 0 [xR (some (13, 0)), xR (some (30, 8))] σ9 (retI (fun x12 σ11 => (((x12 = 0 → AMet G l M_X12_isWord d 0 0 [xR (some (13, 0)), xR (some (30, 9))] σ11 (retI (fun x14 σ13 => (((¬ x14 = 0 → AW G l M_X12_one (d + 1) post σ13 kk nn 277 [some (xR (some (13, 0))), none, none, some (xI x14), none, none, none] [])) ∧ ((x14 = 0 → AMet G l M_X12_isWord d 0 0 [xR (some (13, 0)), xR (some (30, 10))] σ13 (retI (fun x16 σ15 => (((¬ x16 = 0 → AW G l M_X12_one (d + 1) post σ15 kk nn 277 [some (xR (some (13, 0))), none, none, some (xI x14), none, none, none] [])) ∧ ((x16 = 0 → AMet G l M_X12_fails d 0 0 [xR (some (13, 0)), xI 1] σ15 (retV (fun σ17 => post (some (xI 0)) σ17)))))))))))))) ∧ ((¬ x12 = 0 → AMet G l M_X12_next d 0 0 [xR (some (13, 0))] σ11 (retV (fun σ18 => AMet G l M_X12_number d 0 0 [xR (some (13, 0)), xI 0, xI 19] σ18 (retI (fun x20 σ19 => (((¬ (gI σ19 13 27 0) = 0 → post (some (xI 0)) σ19)) ∧ (((gI σ19 13 27 0) = 0 → AMet G l M_X12_times d 0 0 [xR (some (13, 0)), xI (gI σ19 13 28 0), xI x20, xI (gI σ19 13 12 0)] σ19 (retI (fun x22 σ21 => (((x22 ≤ 0 → post (some (xI 0)) σ21)) ∧ ((¬ x22 ≤ 0 → post (some (xI 1)) σ21))))))))))))))))))) ∧ ((¬ x10 = 0 → AMet G l M_X12_next d 0 0 [xR (some (13, 0))] σ9 (retV (fun σ23 => AMet G l M_X12_number d 0 0 [xR (some (13, 0)), xI 0, xI 3] σ23 (retI (fun x25 σ24 => (St σ24 ∧ (((¬ (gI σ24 13 27 0) = 0 → post (some (xI 0)) σ24)) ∧ (((gI σ24 13 27 0) = 0 → (vp_in (gI σ24 13 28 0) 40 ∧ (((¬ (gA σ24 26 3 (gI σ24 13 28 0).toNatClampNeg) = x25 → post (some (xI 0)) σ24)) ∧ (((gA σ24 26 3 (gI σ24 13 28 0).toNatClampNeg) = x25 → post (some (xI 1)) σ24))))))))))))))))))) ∧ ((¬ x8 = 0 → AMet G l M_X12_next d 0 0 [xR (some (13, 0))] σ7 (retV (fun σ26 => AMet G l M_X12_number d 0 0 [xR (some (13, 0)), xI 0, xI 15] σ26 (retI (fun x28 σ27 => (St σ27 ∧ (((¬ (gI σ27 13 27 0) = 0 → post (some (xI 0)) σ27)) ∧ (((gI σ27 13 27 0) = 0 → (vp_in (gI σ27 13 28 0) 40 ∧ (((¬ (((gA σ27 26 2 (gI σ27 13 28 0).toNatClampNeg) >>> (x28 &&& 31)) &&& 1) = 1 → post (some (xI 0)) σ27)) ∧ (((((gA σ27 26 2 (gI σ27 13 28 0).toNatClampNeg) >>> (x28 &&& 31)) &&& 1) = 1 → post (some (xI 1)) σ27))))))))))))))))))) ∧ ((¬ x6 = 0 → AMet G l M_X12_next d 0 0 [xR (some (13, 0))] σ5 (retV (fun σ29 => post (some (xI 1)) σ29))))))))) ∧ ((¬ x4 = 0 → AW G l M_X12_one (d + 1) post σ3 kk nn 29 [some (xR (some (13, 0))), some (xI a1), some (xI x2), none, none, none, none] [])))))))))))) ∧ ((¬ (gI σ 13 24 0) = 0 → post (some (xI 0)) σ)))) : AW G l M_X12_one (d + 1) post σ kk nn 0 [some (xR (some (13, 0))), some (xI a1), none, none, none, none, none] [] := by
  refine aw_aload_n (i := 0) d_X12_one_0 rfl rfl ?_
  refine aw_getI fl_RX12_221 rfl d_X12_one_1 ?_
  refine aw_if_eq (tgt := 9) d_X12_one_4 (by decide) (fun c => ?_) (fun c => ?_)
  · have h := h.1 c
    refine aw_aload_n (i := 0) d_X12_one_9 rfl rfl ?_
    refine aw_ldcS (tx := "not") (i := 4) (by decide +kernel) (by decide) d_X12_one_10 ?_
    refine aw_callV0 (as := [xR (some (30, 4))]) mw_X12_isWord (by decide +kernel) ml_RX12_234 rfl d_X12_one_12 rfl (Nat.le_of_ble_eq_true rfl) (AMet.mono h (aw_toI (fun x2 σ1 h => ?_)))
    refine aw_istore_n (i := 2) d_X12_one_15 rfl (by decide) ?_
    refine aw_iload_n (i := 2) d_X12_one_16 rfl rfl ?_
    refine aw_if_ne (tgt := 29) d_X12_one_17 (by decide) (fun c => ?_) (fun c => ?_)
    · have h := h.1 c
      exact h
    · have h := h.2 c
      refine aw_aload_n (i := 0) d_X12_one_20 rfl rfl ?_
      refine aw_bipush (x := 40) d_X12_one_21 (by decide) ?_
      refine aw_callV0 (as := [xI 40]) mw_X12_is (by decide +kernel) ml_RX12_227 rfl d_X12_one_23 rfl (Nat.le_of_ble_eq_true rfl) (AMet.mono h (aw_toI (fun x4 σ3 h => ?_)))
      refine aw_if_eq (tgt := 82) d_X12_one_26 (by decide) (fun c => ?_) (fun c => ?_)
      · have h := h.1 c
        refine aw_aload_n (i := 0) d_X12_one_82 rfl rfl ?_
        refine aw_ldcwS (tx := "anyone") (i := 5) (by decide +kernel) (by decide) d_X12_one_83 ?_
        refine aw_callV0 (as := [xR (some (30, 5))]) mw_X12_isWord (by decide +kernel) ml_RX12_234 rfl d_X12_one_86 rfl (Nat.le_of_ble_eq_true rfl) (AMet.mono h (aw_toI (fun x6 σ5 h => ?_)))
        refine aw_if_eq (tgt := 98) d_X12_one_89 (by decide) (fun c => ?_) (fun c => ?_)
        · have h := h.1 c
          refine aw_aload_n (i := 0) d_X12_one_98 rfl rfl ?_
          refine aw_ldcwS (tx := "look") (i := 6) (by decide +kernel) (by decide) d_X12_one_99 ?_
          refine aw_callV0 (as := [xR (some (30, 6))]) mw_X12_isWord (by decide +kernel) ml_RX12_234 rfl d_X12_one_102 rfl (Nat.le_of_ble_eq_true rfl) (AMet.mono h (aw_toI (fun x8 σ7 h => ?_)))
          refine aw_if_eq (tgt := 150) d_X12_one_105 (by decide) (fun c => ?_) (fun c => ?_)
          · have h := h.1 c
            refine aw_aload_n (i := 0) d_X12_one_150 rfl rfl ?_
            refine aw_ldcwS (tx := "home") (i := 7) (by decide +kernel) (by decide) d_X12_one_151 ?_
            refine aw_callV0 (as := [xR (some (30, 7))]) mw_X12_isWord (by decide +kernel) ml_RX12_234 rfl d_X12_one_154 rfl (Nat.le_of_ble_eq_true rfl) (AMet.mono h (aw_toI (fun x10 σ9 h => ?_)))
            refine aw_if_eq (tgt := 197) d_X12_one_157 (by decide) (fun c => ?_) (fun c => ?_)
            · have h := h.1 c
              refine aw_aload_n (i := 0) d_X12_one_197 rfl rfl ?_
              refine aw_ldcwS (tx := "seen") (i := 8) (by decide +kernel) (by decide) d_X12_one_198 ?_
              refine aw_callV0 (as := [xR (some (30, 8))]) mw_X12_isWord (by decide +kernel) ml_RX12_234 rfl d_X12_one_201 rfl (Nat.le_of_ble_eq_true rfl) (AMet.mono h (aw_toI (fun x12 σ11 h => ?_)))
              refine aw_if_eq (tgt := 248) d_X12_one_204 (by decide) (fun c => ?_) (fun c => ?_)
              · have h := h.1 c
                refine aw_aload_n (i := 0) d_X12_one_248 rfl rfl ?_
                refine aw_ldcwS (tx := "age") (i := 9) (by decide +kernel) (by decide) d_X12_one_249 ?_
                refine aw_callV0 (as := [xR (some (30, 9))]) mw_X12_isWord (by decide +kernel) ml_RX12_234 rfl d_X12_one_252 rfl (Nat.le_of_ble_eq_true rfl) (AMet.mono h (aw_toI (fun x14 σ13 h => ?_)))
                refine aw_istore_n (i := 3) d_X12_one_255 rfl (by decide) ?_
                refine aw_iload_n (i := 3) d_X12_one_256 rfl rfl ?_
                refine aw_if_ne (tgt := 277) d_X12_one_257 (by decide) (fun c => ?_) (fun c => ?_)
                · have h := h.1 c
                  exact AW.weak h (by exact ⟨rfl, ⟨rfl, trivial⟩⟩)
                · have h := h.2 c
                  refine aw_aload_n (i := 0) d_X12_one_260 rfl rfl ?_
                  refine aw_ldcwS (tx := "tall") (i := 10) (by decide +kernel) (by decide) d_X12_one_261 ?_
                  refine aw_callV0 (as := [xR (some (30, 10))]) mw_X12_isWord (by decide +kernel) ml_RX12_234 rfl d_X12_one_264 rfl (Nat.le_of_ble_eq_true rfl) (AMet.mono h (aw_toI (fun x16 σ15 h => ?_)))
                  refine aw_if_ne (tgt := 277) d_X12_one_267 (by decide) (fun c => ?_) (fun c => ?_)
                  · have h := h.1 c
                    exact AW.weak h (by exact ⟨rfl, ⟨rfl, trivial⟩⟩)
                  · have h := h.2 c
                    refine aw_aload_n (i := 0) d_X12_one_270 rfl rfl ?_
                    refine aw_iconst (x := 1) d_X12_one_271 (by decide) ?_
                    refine aw_callV0 (as := [xI 1]) mw_X12_fails (by decide +kernel) ml_RX12_230 rfl d_X12_one_272 rfl (Nat.le_of_ble_eq_true rfl) (AMet.mono h (aw_toV (fun σ17 h => ?_)))
                    refine aw_iconst (x := 0) d_X12_one_275 (by decide) ?_
                    exact aw_ret d_X12_one_276 rfl (by decide) h
              · have h := h.2 c
                refine aw_aload_n (i := 0) d_X12_one_207 rfl rfl ?_
                refine aw_callV0 (as := []) mw_X12_next (by decide +kernel) ml_RX12_208 rfl d_X12_one_208 rfl (Nat.le_of_ble_eq_true rfl) (AMet.mono h (aw_toV (fun σ18 h => ?_)))
                refine aw_aload_n (i := 0) d_X12_one_211 rfl rfl ?_
                refine aw_iconst (x := 0) d_X12_one_212 (by decide) ?_
                refine aw_bipush (x := 19) d_X12_one_213 (by decide) ?_
                refine aw_callV0 (as := [xI 0, xI 19]) mw_X12_number (by decide +kernel) ml_RX12_260 rfl d_X12_one_215 rfl (Nat.le_of_ble_eq_true rfl) (AMet.mono h (aw_toI (fun x20 σ19 h => ?_)))
                refine aw_istore_n (i := 3) d_X12_one_218 rfl (by decide) ?_
                refine aw_aload_n (i := 0) d_X12_one_219 rfl rfl ?_
                refine aw_getI fl_RX12_263 rfl d_X12_one_220 ?_
                refine aw_if_ne (tgt := 246) d_X12_one_223 (by decide) (fun c => ?_) (fun c => ?_)
                · have h := h.1 c
                  refine aw_iconst (x := 0) d_X12_one_246 (by decide) ?_
                  exact aw_ret d_X12_one_247 rfl (by decide) h
                · have h := h.2 c
                  refine aw_aload_n (i := 0) d_X12_one_226 rfl rfl ?_
                  refine aw_aload_n (i := 0) d_X12_one_227 rfl rfl ?_
                  refine aw_getI fl_RX12_267 rfl d_X12_one_228 ?_
                  refine aw_iload_n (i := 3) d_X12_one_231 rfl rfl ?_
                  refine aw_aload_n (i := 0) d_X12_one_232 rfl rfl ?_
                  refine aw_getI fl_RX12_163 rfl d_X12_one_233 ?_
                  refine aw_callV0 (as := [xI (gI σ19 13 28 0), xI x20, xI (gI σ19 13 12 0)]) mw_X12_times (by decide +kernel) ml_RX12_173 rfl d_X12_one_236 rfl (Nat.le_of_ble_eq_true rfl) (AMet.mono h (aw_toI (fun x22 σ21 h => ?_)))
                  refine aw_if_le (tgt := 246) d_X12_one_239 (by decide) (fun c => ?_) (fun c => ?_)
                  · have h := h.1 c
                    refine aw_iconst (x := 0) d_X12_one_246 (by decide) ?_
                    exact aw_ret d_X12_one_247 rfl (by decide) h
                  · have h := h.2 c
                    refine aw_iconst (x := 1) d_X12_one_242 (by decide) ?_
                    refine aw_goto (tgt := 247) d_X12_one_243 (by decide) ?_
                    exact aw_ret d_X12_one_247 rfl (by decide) h
            · have h := h.2 c
              refine aw_aload_n (i := 0) d_X12_one_160 rfl rfl ?_
              refine aw_callV0 (as := []) mw_X12_next (by decide +kernel) ml_RX12_208 rfl d_X12_one_161 rfl (Nat.le_of_ble_eq_true rfl) (AMet.mono h (aw_toV (fun σ23 h => ?_)))
              refine aw_aload_n (i := 0) d_X12_one_164 rfl rfl ?_
              refine aw_iconst (x := 0) d_X12_one_165 (by decide) ?_
              refine aw_iconst (x := 3) d_X12_one_166 (by decide) ?_
              refine aw_callV0 (as := [xI 0, xI 3]) mw_X12_number (by decide +kernel) ml_RX12_260 rfl d_X12_one_167 rfl (Nat.le_of_ble_eq_true rfl) (AMet.mono h (aw_toI (fun x25 σ24 h => ?_)))
              obtain ⟨hS24, h⟩ := h
              refine aw_istore_n (i := 3) d_X12_one_170 rfl (by decide) ?_
              refine aw_aload_n (i := 0) d_X12_one_171 rfl rfl ?_
              refine aw_getI fl_RX12_263 rfl d_X12_one_172 ?_
              refine aw_if_ne (tgt := 195) d_X12_one_175 (by decide) (fun c => ?_) (fun c => ?_)
              · have h := h.1 c
                refine aw_iconst (x := 0) d_X12_one_195 (by decide) ?_
                exact aw_ret d_X12_one_196 rfl (by decide) h
              · have h := h.2 c
                refine aw_aload_n (i := 0) d_X12_one_178 rfl rfl ?_
                refine aw_getRv fl_RX12_23 rfl (r := some (26, 3)) (St.get hS24 13 6 0 26 3 (by decide)) d_X12_one_179 ?_
                refine aw_aload_n (i := 0) d_X12_one_182 rfl rfl ?_
                refine aw_getI fl_RX12_267 rfl d_X12_one_183 ?_
                obtain ⟨hq, h⟩ := h
                refine aw_iald d_X12_one_186 (by decide) (vp_of (St.len hS24 26 3 40 (by decide)) hq) ?_
                refine aw_iload_n (i := 3) d_X12_one_187 rfl rfl ?_
                refine aw_icmp_ne (tgt := 195) d_X12_one_188 (by decide) (fun c => ?_) (fun c => ?_)
                · have h := h.1 c
                  refine aw_iconst (x := 0) d_X12_one_195 (by decide) ?_
                  exact aw_ret d_X12_one_196 rfl (by decide) h
                · have h := h.2 c
                  refine aw_iconst (x := 1) d_X12_one_191 (by decide) ?_
                  refine aw_goto (tgt := 196) d_X12_one_192 (by decide) ?_
                  exact aw_ret d_X12_one_196 rfl (by decide) h
          · have h := h.2 c
            refine aw_aload_n (i := 0) d_X12_one_108 rfl rfl ?_
            refine aw_callV0 (as := []) mw_X12_next (by decide +kernel) ml_RX12_208 rfl d_X12_one_109 rfl (Nat.le_of_ble_eq_true rfl) (AMet.mono h (aw_toV (fun σ26 h => ?_)))
            refine aw_aload_n (i := 0) d_X12_one_112 rfl rfl ?_
            refine aw_iconst (x := 0) d_X12_one_113 (by decide) ?_
            refine aw_bipush (x := 15) d_X12_one_114 (by decide) ?_
            refine aw_callV0 (as := [xI 0, xI 15]) mw_X12_number (by decide +kernel) ml_RX12_260 rfl d_X12_one_116 rfl (Nat.le_of_ble_eq_true rfl) (AMet.mono h (aw_toI (fun x28 σ27 h => ?_)))
            obtain ⟨hS27, h⟩ := h
            refine aw_istore_n (i := 3) d_X12_one_119 rfl (by decide) ?_
            refine aw_aload_n (i := 0) d_X12_one_120 rfl rfl ?_
            refine aw_getI fl_RX12_263 rfl d_X12_one_121 ?_
            refine aw_if_ne (tgt := 148) d_X12_one_124 (by decide) (fun c => ?_) (fun c => ?_)
            · have h := h.1 c
              refine aw_iconst (x := 0) d_X12_one_148 (by decide) ?_
              exact aw_ret d_X12_one_149 rfl (by decide) h
            · have h := h.2 c
              refine aw_aload_n (i := 0) d_X12_one_127 rfl rfl ?_
              refine aw_getRv fl_RX12_20 rfl (r := some (26, 2)) (St.get hS27 13 5 0 26 2 (by decide)) d_X12_one_128 ?_
              refine aw_aload_n (i := 0) d_X12_one_131 rfl rfl ?_
              refine aw_getI fl_RX12_267 rfl d_X12_one_132 ?_
              obtain ⟨hq, h⟩ := h
              refine aw_iald d_X12_one_135 (by decide) (vp_of (St.len hS27 26 2 40 (by decide)) hq) ?_
              refine aw_iload_n (i := 3) d_X12_one_136 rfl rfl ?_
              refine aw_ishr d_X12_one_137 ?_
              refine aw_iconst (x := 1) d_X12_one_138 (by decide) ?_
              refine aw_iand d_X12_one_139 ?_
              refine aw_iconst (x := 1) d_X12_one_140 (by decide) ?_
              refine aw_icmp_ne (tgt := 148) d_X12_one_141 (by decide) (fun c => ?_) (fun c => ?_)
              · have h := h.1 c
                refine aw_iconst (x := 0) d_X12_one_148 (by decide) ?_
                exact aw_ret d_X12_one_149 rfl (by decide) h
              · have h := h.2 c
                refine aw_iconst (x := 1) d_X12_one_144 (by decide) ?_
                refine aw_goto (tgt := 149) d_X12_one_145 (by decide) ?_
                exact aw_ret d_X12_one_149 rfl (by decide) h
        · have h := h.2 c
          refine aw_aload_n (i := 0) d_X12_one_92 rfl rfl ?_
          refine aw_callV0 (as := []) mw_X12_next (by decide +kernel) ml_RX12_208 rfl d_X12_one_93 rfl (Nat.le_of_ble_eq_true rfl) (AMet.mono h (aw_toV (fun σ29 h => ?_)))
          refine aw_iconst (x := 1) d_X12_one_96 (by decide) ?_
          exact aw_ret d_X12_one_97 rfl (by decide) h
      · have h := h.2 c
        exact h
  · have h := h.2 c
    refine aw_iconst (x := 0) d_X12_one_7 (by decide) ?_
    exact aw_ret d_X12_one_8 rfl (by decide) h
set_option maxRecDepth 20000 in
theorem vc_X12_one_29 {G : GG} {l : Launch} {d : Nat} {post : Option AVal → AS → Prop} {σ : AS} {kk nn : Nat} {v1 : Int32} {v2 : Int32} (h : (((¬ v1 = 8 → AMet G l M_X12_next d 0 0 [xR (some (13, 0))] σ (retV (fun σ30 => (((v2 = 0 → AMet G l M_X12_either d 0 0 [xR (some (13, 0)), xI (v1 + 1)] σ30 (retI (fun x32 σ31 => AMet G l M_X12_wants d 0 0 [xR (some (13, 0)), xI 41] σ31 (retV (fun σ33 => (narrow .boolean (.int x32) = .int x32 ∧ post (some (xI x32)) σ33))))))) ∧ ((¬ v2 = 0 → AMet G l M_X12_one d 0 0 [xR (some (13, 0)), xI (v1 + 1)] σ30 (retI (fun x35 σ34 => (((¬ x35 = 0 → post (some (xI 0)) σ34)) ∧ ((x35 = 0 → post (some (xI 1)) σ34)))))))))))) ∧ ((v1 = 8 → AMet G l M_X12_fails d 0 0 [xR (some (13, 0)), xI 2] σ (retV (fun σ36 => post (some (xI 0)) σ36)))))) : AW G l M_X12_one (d + 1) post σ kk nn 29 [some (xR (some (13, 0))), some (xI v1), some (xI v2), none, none, none, none] [] := by
  refine aw_iload_n (i := 1) d_X12_one_29 rfl rfl ?_
  refine aw_bipush (x := 8) d_X12_one_30 (by decide) ?_
  refine aw_icmp_ne (tgt := 42) d_X12_one_32 (by decide) (fun c => ?_) (fun c => ?_)
  · have h := h.1 c
    refine aw_aload_n (i := 0) d_X12_one_42 rfl rfl ?_
    refine aw_callV0 (as := []) mw_X12_next (by decide +kernel) ml_RX12_208 rfl d_X12_one_43 rfl (Nat.le_of_ble_eq_true rfl) (AMet.mono h (aw_toV (fun σ30 h => ?_)))
    refine aw_iload_n (i := 2) d_X12_one_46 rfl rfl ?_
    refine aw_if_eq (tgt := 66) d_X12_one_47 (by decide) (fun c => ?_) (fun c => ?_)
    · have h := h.1 c
      refine aw_aload_n (i := 0) d_X12_one_66 rfl rfl ?_
      refine aw_iload_n (i := 1) d_X12_one_67 rfl rfl ?_
      refine aw_iconst (x := 1) d_X12_one_68 (by decide) ?_
      refine aw_iadd d_X12_one_69 ?_
      refine aw_callV0 (as := [xI (v1 + 1)]) mw_X12_either (by decide +kernel) ml_RX12_250 rfl d_X12_one_70 rfl (Nat.le_of_ble_eq_true rfl) (AMet.mono h (aw_toI (fun x32 σ31 h => ?_)))
      refine aw_istore_n (i := 3) d_X12_one_73 rfl (by decide) ?_
      refine aw_aload_n (i := 0) d_X12_one_74 rfl rfl ?_
      refine aw_bipush (x := 41) d_X12_one_75 (by decide) ?_
      refine aw_callV0 (as := [xI 41]) mw_X12_wants (by decide +kernel) ml_RX12_253 rfl d_X12_one_77 rfl (Nat.le_of_ble_eq_true rfl) (AMet.mono h (aw_toV (fun σ33 h => ?_)))
      refine aw_iload_n (i := 3) d_X12_one_80 rfl rfl ?_
      exact aw_ret d_X12_one_81 rfl h.1 h.2
    · have h := h.2 c
      refine aw_aload_n (i := 0) d_X12_one_50 rfl rfl ?_
      refine aw_iload_n (i := 1) d_X12_one_51 rfl rfl ?_
      refine aw_iconst (x := 1) d_X12_one_52 (by decide) ?_
      refine aw_iadd d_X12_one_53 ?_
      refine aw_callV0 (as := [xI (v1 + 1)]) mw_X12_one (by decide +kernel) ml_RX12_243 rfl d_X12_one_54 rfl (Nat.le_of_ble_eq_true rfl) (AMet.mono h (aw_toI (fun x35 σ34 h => ?_)))
      refine aw_if_ne (tgt := 64) d_X12_one_57 (by decide) (fun c => ?_) (fun c => ?_)
      · have h := h.1 c
        refine aw_iconst (x := 0) d_X12_one_64 (by decide) ?_
        exact aw_ret d_X12_one_65 rfl (by decide) h
      · have h := h.2 c
        refine aw_iconst (x := 1) d_X12_one_60 (by decide) ?_
        refine aw_goto (tgt := 65) d_X12_one_61 (by decide) ?_
        exact aw_ret d_X12_one_65 rfl (by decide) h
  · have h := h.2 c
    refine aw_aload_n (i := 0) d_X12_one_35 rfl rfl ?_
    refine aw_iconst (x := 2) d_X12_one_36 (by decide) ?_
    refine aw_callV0 (as := [xI 2]) mw_X12_fails (by decide +kernel) ml_RX12_230 rfl d_X12_one_37 rfl (Nat.le_of_ble_eq_true rfl) (AMet.mono h (aw_toV (fun σ36 h => ?_)))
    refine aw_iconst (x := 0) d_X12_one_40 (by decide) ?_
    exact aw_ret d_X12_one_41 rfl (by decide) h
set_option maxRecDepth 20000 in
theorem vc_X12_one_277 {G : GG} {l : Launch} {d : Nat} {post : Option AVal → AS → Prop} {σ : AS} {kk nn : Nat} {v3 : Int32} (h : AMet G l M_X12_next d 0 0 [xR (some (13, 0))] σ (retV (fun σ37 => AMet G l M_X12_is d 0 0 [xR (some (13, 0)), xI 60] σ37 (retI (fun x39 σ38 => (((¬ x39 = 0 → AW G l M_X12_one (d + 1) post σ38 kk nn 310 [some (xR (some (13, 0))), none, none, some (xI v3), some (xI x39), none, none] [])) ∧ ((x39 = 0 → AMet G l M_X12_is d 0 0 [xR (some (13, 0)), xI 62] σ38 (retI (fun x41 σ40 => (((¬ x41 = 0 → AW G l M_X12_one (d + 1) post σ40 kk nn 310 [some (xR (some (13, 0))), none, none, some (xI v3), some (xI x39), none, none] [])) ∧ ((x41 = 0 → AMet G l M_X12_fails d 0 0 [xR (some (13, 0)), xI 1] σ40 (retV (fun σ42 => post (some (xI 0)) σ42))))))))))))))) : AW G l M_X12_one (d + 1) post σ kk nn 277 [some (xR (some (13, 0))), none, none, some (xI v3), none, none, none] [] := by
  refine aw_aload_n (i := 0) d_X12_one_277 rfl rfl ?_
  refine aw_callV0 (as := []) mw_X12_next (by decide +kernel) ml_RX12_208 rfl d_X12_one_278 rfl (Nat.le_of_ble_eq_true rfl) (AMet.mono h (aw_toV (fun σ37 h => ?_)))
  refine aw_aload_n (i := 0) d_X12_one_281 rfl rfl ?_
  refine aw_bipush (x := 60) d_X12_one_282 (by decide) ?_
  refine aw_callV0 (as := [xI 60]) mw_X12_is (by decide +kernel) ml_RX12_227 rfl d_X12_one_284 rfl (Nat.le_of_ble_eq_true rfl) (AMet.mono h (aw_toI (fun x39 σ38 h => ?_)))
  refine aw_istore (i := 4) d_X12_one_287 (by decide) ?_
  refine aw_iload (i := 4) d_X12_one_289 rfl ?_
  refine aw_if_ne (tgt := 310) d_X12_one_291 (by decide) (fun c => ?_) (fun c => ?_)
  · have h := h.1 c
    exact h
  · have h := h.2 c
    refine aw_aload_n (i := 0) d_X12_one_294 rfl rfl ?_
    refine aw_bipush (x := 62) d_X12_one_295 (by decide) ?_
    refine aw_callV0 (as := [xI 62]) mw_X12_is (by decide +kernel) ml_RX12_227 rfl d_X12_one_297 rfl (Nat.le_of_ble_eq_true rfl) (AMet.mono h (aw_toI (fun x41 σ40 h => ?_)))
    refine aw_if_ne (tgt := 310) d_X12_one_300 (by decide) (fun c => ?_) (fun c => ?_)
    · have h := h.1 c
      exact h
    · have h := h.2 c
      refine aw_aload_n (i := 0) d_X12_one_303 rfl rfl ?_
      refine aw_iconst (x := 1) d_X12_one_304 (by decide) ?_
      refine aw_callV0 (as := [xI 1]) mw_X12_fails (by decide +kernel) ml_RX12_230 rfl d_X12_one_305 rfl (Nat.le_of_ble_eq_true rfl) (AMet.mono h (aw_toV (fun σ42 h => ?_)))
      refine aw_iconst (x := 0) d_X12_one_308 (by decide) ?_
      exact aw_ret d_X12_one_309 rfl (by decide) h
set_option maxRecDepth 20000 in
theorem vc_X12_one_310 {G : GG} {l : Launch} {d : Nat} {post : Option AVal → AS → Prop} {σ : AS} {kk nn : Nat} {v3 : Int32} {v4 : Int32} (h : AMet G l M_X12_next d 0 0 [xR (some (13, 0))] σ (retV (fun σ43 => AMet G l M_X12_number d 0 0 [xR (some (13, 0)), xI 0, xI 99999] σ43 (retI (fun x45 σ44 => (St σ44 ∧ ((((gI σ44 13 27 0) = 0 → (((v3 = 0 → (vp_in (gI σ44 13 28 0) 40 ∧ (((v4 = 0 → ((((gA σ44 26 1 (gI σ44 13 28 0).toNatClampNeg) ≤ x45 → post (some (xI 0)) σ44)) ∧ ((¬ (gA σ44 26 1 (gI σ44 13 28 0).toNatClampNeg) ≤ x45 → post (some (xI 1)) σ44))))) ∧ ((¬ v4 = 0 → (((x45 ≤ (gA σ44 26 1 (gI σ44 13 28 0).toNatClampNeg) → post (some (xI 0)) σ44)) ∧ ((¬ x45 ≤ (gA σ44 26 1 (gI σ44 13 28 0).toNatClampNeg) → post (some (xI 1)) σ44))))))))) ∧ ((¬ v3 = 0 → (vp_in (gI σ44 13 28 0) 40 ∧ (((v4 = 0 → ((((gA σ44 26 0 (gI σ44 13 28 0).toNatClampNeg) ≤ x45 → post (some (xI 0)) σ44)) ∧ ((¬ (gA σ44 26 0 (gI σ44 13 28 0).toNatClampNeg) ≤ x45 → post (some (xI 1)) σ44))))) ∧ ((¬ v4 = 0 → (((x45 ≤ (gA σ44 26 0 (gI σ44 13 28 0).toNatClampNeg) → post (some (xI 0)) σ44)) ∧ ((¬ x45 ≤ (gA σ44 26 0 (gI σ44 13 28 0).toNatClampNeg) → post (some (xI 1)) σ44)))))))))))) ∧ ((¬ (gI σ44 13 27 0) = 0 → post (some (xI 0)) σ44))))))))) : AW G l M_X12_one (d + 1) post σ kk nn 310 [some (xR (some (13, 0))), none, none, some (xI v3), some (xI v4), none, none] [] := by
  refine aw_aload_n (i := 0) d_X12_one_310 rfl rfl ?_
  refine aw_callV0 (as := []) mw_X12_next (by decide +kernel) ml_RX12_208 rfl d_X12_one_311 rfl (Nat.le_of_ble_eq_true rfl) (AMet.mono h (aw_toV (fun σ43 h => ?_)))
  refine aw_aload_n (i := 0) d_X12_one_314 rfl rfl ?_
  refine aw_iconst (x := 0) d_X12_one_315 (by decide) ?_
  refine aw_ldcwI (x := 99999) d_X12_one_316 ct_RX12_275 ?_
  refine aw_callV0 (as := [xI 0, xI 99999]) mw_X12_number (by decide +kernel) ml_RX12_260 rfl d_X12_one_319 rfl (Nat.le_of_ble_eq_true rfl) (AMet.mono h (aw_toI (fun x45 σ44 h => ?_)))
  obtain ⟨hS44, h⟩ := h
  refine aw_istore (i := 5) d_X12_one_322 (by decide) ?_
  refine aw_aload_n (i := 0) d_X12_one_324 rfl rfl ?_
  refine aw_getI fl_RX12_263 rfl d_X12_one_325 ?_
  refine aw_if_eq (tgt := 333) d_X12_one_328 (by decide) (fun c => ?_) (fun c => ?_)
  · have h := h.1 c
    refine aw_iload_n (i := 3) d_X12_one_333 rfl rfl ?_
    refine aw_if_eq (tgt := 349) d_X12_one_334 (by decide) (fun c => ?_) (fun c => ?_)
    · have h := h.1 c
      refine aw_aload_n (i := 0) d_X12_one_349 rfl rfl ?_
      refine aw_getRv fl_RX12_17 rfl (r := some (26, 1)) (St.get hS44 13 4 0 26 1 (by decide)) d_X12_one_350 ?_
      refine aw_aload_n (i := 0) d_X12_one_353 rfl rfl ?_
      refine aw_getI fl_RX12_267 rfl d_X12_one_354 ?_
      obtain ⟨hq, h⟩ := h
      refine aw_iald d_X12_one_357 (by decide) (vp_of (St.len hS44 26 1 40 (by decide)) hq) ?_
      refine aw_istore (i := 6) d_X12_one_358 (by decide) ?_
      refine aw_iload (i := 4) d_X12_one_360 rfl ?_
      refine aw_if_eq (tgt := 380) d_X12_one_362 (by decide) (fun c => ?_) (fun c => ?_)
      · have h := h.1 c
        refine aw_iload (i := 6) d_X12_one_380 rfl ?_
        refine aw_iload (i := 5) d_X12_one_382 rfl ?_
        refine aw_icmp_le (tgt := 391) d_X12_one_384 (by decide) (fun c => ?_) (fun c => ?_)
        · have h := h.1 c
          refine aw_iconst (x := 0) d_X12_one_391 (by decide) ?_
          exact aw_ret d_X12_one_392 rfl (by decide) h
        · have h := h.2 c
          refine aw_iconst (x := 1) d_X12_one_387 (by decide) ?_
          refine aw_goto (tgt := 392) d_X12_one_388 (by decide) ?_
          exact aw_ret d_X12_one_392 rfl (by decide) h
      · have h := h.2 c
        refine aw_iload (i := 6) d_X12_one_365 rfl ?_
        refine aw_iload (i := 5) d_X12_one_367 rfl ?_
        refine aw_icmp_ge (tgt := 376) d_X12_one_369 (by decide) (fun c => ?_) (fun c => ?_)
        · have h := h.1 c
          refine aw_iconst (x := 0) d_X12_one_376 (by decide) ?_
          refine aw_goto (tgt := 392) d_X12_one_377 (by decide) ?_
          exact aw_ret d_X12_one_392 rfl (by decide) h
        · have h := h.2 c
          refine aw_iconst (x := 1) d_X12_one_372 (by decide) ?_
          refine aw_goto (tgt := 392) d_X12_one_373 (by decide) ?_
          exact aw_ret d_X12_one_392 rfl (by decide) h
    · have h := h.2 c
      refine aw_aload_n (i := 0) d_X12_one_337 rfl rfl ?_
      refine aw_getRv fl_RX12_13 rfl (r := some (26, 0)) (St.get hS44 13 3 0 26 0 (by decide)) d_X12_one_338 ?_
      refine aw_aload_n (i := 0) d_X12_one_341 rfl rfl ?_
      refine aw_getI fl_RX12_267 rfl d_X12_one_342 ?_
      obtain ⟨hq, h⟩ := h
      refine aw_iald d_X12_one_345 (by decide) (vp_of (St.len hS44 26 0 40 (by decide)) hq) ?_
      refine aw_goto (tgt := 358) d_X12_one_346 (by decide) ?_
      refine aw_istore (i := 6) d_X12_one_358 (by decide) ?_
      refine aw_iload (i := 4) d_X12_one_360 rfl ?_
      refine aw_if_eq (tgt := 380) d_X12_one_362 (by decide) (fun c => ?_) (fun c => ?_)
      · have h := h.1 c
        refine aw_iload (i := 6) d_X12_one_380 rfl ?_
        refine aw_iload (i := 5) d_X12_one_382 rfl ?_
        refine aw_icmp_le (tgt := 391) d_X12_one_384 (by decide) (fun c => ?_) (fun c => ?_)
        · have h := h.1 c
          refine aw_iconst (x := 0) d_X12_one_391 (by decide) ?_
          exact aw_ret d_X12_one_392 rfl (by decide) h
        · have h := h.2 c
          refine aw_iconst (x := 1) d_X12_one_387 (by decide) ?_
          refine aw_goto (tgt := 392) d_X12_one_388 (by decide) ?_
          exact aw_ret d_X12_one_392 rfl (by decide) h
      · have h := h.2 c
        refine aw_iload (i := 6) d_X12_one_365 rfl ?_
        refine aw_iload (i := 5) d_X12_one_367 rfl ?_
        refine aw_icmp_ge (tgt := 376) d_X12_one_369 (by decide) (fun c => ?_) (fun c => ?_)
        · have h := h.1 c
          refine aw_iconst (x := 0) d_X12_one_376 (by decide) ?_
          refine aw_goto (tgt := 392) d_X12_one_377 (by decide) ?_
          exact aw_ret d_X12_one_392 rfl (by decide) h
        · have h := h.2 c
          refine aw_iconst (x := 1) d_X12_one_372 (by decide) ?_
          refine aw_goto (tgt := 392) d_X12_one_373 (by decide) ?_
          exact aw_ret d_X12_one_392 rfl (by decide) h
  · have h := h.2 c
    refine aw_iconst (x := 0) d_X12_one_331 (by decide) ?_
    exact aw_ret d_X12_one_332 rfl (by decide) h
set_option maxRecDepth 20000 in
theorem vc_X12_readAsk {G : GG} {l : Launch} {d : Nat} {post : Option AVal → AS → Prop} {σ : AS} {kk nn : Nat}  (h : AMet G l M_X12_isWord d 0 0 [xR (some (13, 0)), xR (some (30, 0))] σ (retI (fun x2 σ1 => (((¬ x2 = 0 → (((¬ (gI σ1 13 37 0) = 6 → AMet G l M_X12_next d 0 0 [xR (some (13, 0))] σ1 (retV (fun σ3 => (St σ3 ∧ (AMet G l M_X12_number d 0 0 [xR (some (13, 0)), xI 0, xI 19] σ3 (retI (fun x5 σ4 => (St σ4 ∧ (vp_in (gI σ1 13 37 0) 6 ∧ (AMet G l M_X12_wants_ d 0 0 [xR (some (13, 0)), xR (some (30, 1))] (sA σ4 26 15 (gI σ1 13 37 0).toNatClampNeg x5) (retV (fun σ6 => (St σ6 ∧ (AMet G l M_X12_number d 0 0 [xR (some (13, 0)), xI 0, xI 1439] σ6 (retI (fun x8 σ7 => (St σ7 ∧ (vp_in (gI σ1 13 37 0) 6 ∧ (AMet G l M_X12_wants_ d 0 0 [xR (some (13, 0)), xR (some (30, 2))] (sA σ7 26 16 (gI σ1 13 37 0).toNatClampNeg x8) (retV (fun σ9 => (St σ9 ∧ (AMet G l M_X12_number d 0 0 [xR (some (13, 0)), xI 1, xI 600] σ9 (retI (fun x11 σ10 => (St σ10 ∧ (vp_in (gI σ1 13 37 0) 6 ∧ (AMet G l M_X12_wants_ d 0 0 [xR (some (13, 0)), xR (some (30, 3))] (sA σ10 26 17 (gI σ1 13 37 0).toNatClampNeg x11) (retV (fun σ12 => (St σ12 ∧ (AMet G l M_X12_number d 0 0 [xR (some (13, 0)), xI 1, xI 8] σ12 (retI (fun x14 σ13 => (St σ13 ∧ (vp_in (gI σ1 13 37 0) 6 ∧ (((¬ (gI σ13 13 24 0) = 0 → ((((gI σ13 13 24 0) = 0 → (vp_in (gI σ1 13 37 0) 6 ∧ (AMet G l M_X12_next d 0 0 [xR (some (13, 0))] (sA (sA σ13 26 18 (gI σ1 13 37 0).toNatClampNeg x14) 26 19 (gI σ1 13 37 0).toNatClampNeg (gI σ13 13 20 0)) (retV (fun σ15 => AMet G l M_X12_either d 0 0 [xR (some (13, 0)), xI 0] σ15 (retI (fun x17 σ16 => AMet G l M_X12_wants d 0 0 [xR (some (13, 0)), xI 59] σ16 (retV (fun σ18 => post none (sI σ18 13 37 0 ((gI σ18 13 37 0) + 1)))))))))))) ∧ ((¬ (gI σ13 13 24 0) = 0 → post none (sA σ13 26 18 (gI σ1 13 37 0).toNatClampNeg x14)))))) ∧ (((gI σ13 13 24 0) = 0 → AMet G l M_X12_is d 0 0 [xR (some (13, 0)), xI 58] (sA σ13 26 18 (gI σ1 13 37 0).toNatClampNeg x14) (retI (fun x20 σ19 => (St σ19 ∧ (((¬ x20 = 0 → ((((gI σ19 13 24 0) = 0 → (vp_in (gI σ1 13 37 0) 6 ∧ (AMet G l M_X12_next d 0 0 [xR (some (13, 0))] (sA σ19 26 19 (gI σ1 13 37 0).toNatClampNeg (gI σ19 13 20 0)) (retV (fun σ21 => AMet G l M_X12_either d 0 0 [xR (some (13, 0)), xI 0] σ21 (retI (fun x23 σ22 => AMet G l M_X12_wants d 0 0 [xR (some (13, 0)), xI 59] σ22 (retV (fun σ24 => post none (sI σ24 13 37 0 ((gI σ24 13 37 0) + 1)))))))))))) ∧ ((¬ (gI σ19 13 24 0) = 0 → post none σ19))))) ∧ ((x20 = 0 → AMet G l M_X12_fails d 0 0 [xR (some (13, 0)), xI 1] σ19 (retV (fun σ25 => (St σ25 ∧ ((((gI σ25 13 24 0) = 0 → (vp_in (gI σ1 13 37 0) 6 ∧ (AMet G l M_X12_next d 0 0 [xR (some (13, 0))] (sA σ25 26 19 (gI σ1 13 37 0).toNatClampNeg (gI σ25 13 20 0)) (retV (fun σ26 => AMet G l M_X12_either d 0 0 [xR (some (13, 0)), xI 0] σ26 (retI (fun x28 σ27 => AMet G l M_X12_wants d 0 0 [xR (some (13, 0)), xI 59] σ27 (retV (fun σ29 => post none (sI σ29 13 37 0 ((gI σ29 13 37 0) + 1)))))))))))) ∧ ((¬ (gI σ25 13 24 0) = 0 → post none σ25)))))))))))))))))))))))))))))))))))))))))))))))))))) ∧ (((gI σ1 13 37 0) = 6 → AMet G l M_X12_fails d 0 0 [xR (some (13, 0)), xI 2] σ1 (retV (fun σ30 => post none σ30))))))) ∧ ((x2 = 0 → AMet G l M_X12_fails d 0 0 [xR (some (13, 0)), xI 1] σ1 (retV (fun σ31 => post none σ31)))))))) : AW G l M_X12_readAsk (d + 1) post σ kk nn 0 [some (xR (some (13, 0))), none] [] := by
  refine aw_aload_n (i := 0) d_X12_readAsk_0 rfl rfl ?_
  refine aw_ldcwS (tx := "scene") (i := 0) (by decide +kernel) (by decide) d_X12_readAsk_1 ?_
  refine aw_callV0 (as := [xR (some (30, 0))]) mw_X12_isWord (by decide +kernel) ml_RX12_234 rfl d_X12_readAsk_4 rfl (Nat.le_of_ble_eq_true rfl) (AMet.mono h (aw_toI (fun x2 σ1 h => ?_)))
  refine aw_if_ne (tgt := 16) d_X12_readAsk_7 (by decide) (fun c => ?_) (fun c => ?_)
  · have h := h.1 c
    refine aw_aload_n (i := 0) d_X12_readAsk_16 rfl rfl ?_
    refine aw_getI fl_RX12_277 rfl d_X12_readAsk_17 ?_
    refine aw_bipush (x := 6) d_X12_readAsk_20 (by decide) ?_
    refine aw_icmp_ne (tgt := 31) d_X12_readAsk_22 (by decide) (fun c => ?_) (fun c => ?_)
    · have h := h.1 c
      refine aw_aload_n (i := 0) d_X12_readAsk_31 rfl rfl ?_
      refine aw_getI fl_RX12_277 rfl d_X12_readAsk_32 ?_
      refine aw_istore_n (i := 1) d_X12_readAsk_35 rfl (by decide) ?_
      refine aw_aload_n (i := 0) d_X12_readAsk_36 rfl rfl ?_
      refine aw_callV0 (as := []) mw_X12_next (by decide +kernel) ml_RX12_208 rfl d_X12_readAsk_37 rfl (Nat.le_of_ble_eq_true rfl) (AMet.mono h (aw_toV (fun σ3 h => ?_)))
      obtain ⟨hS3, h⟩ := h
      refine aw_aload_n (i := 0) d_X12_readAsk_40 rfl rfl ?_
      refine aw_getRv fl_RX12_73 rfl (r := some (26, 15)) (St.get hS3 13 38 0 26 15 (by decide)) d_X12_readAsk_41 ?_
      refine aw_iload_n (i := 1) d_X12_readAsk_44 rfl rfl ?_
      refine aw_aload_n (i := 0) d_X12_readAsk_45 rfl rfl ?_
      refine aw_iconst (x := 0) d_X12_readAsk_46 (by decide) ?_
      refine aw_bipush (x := 19) d_X12_readAsk_47 (by decide) ?_
      refine aw_callV0 (as := [xI 0, xI 19]) mw_X12_number (by decide +kernel) ml_RX12_260 rfl d_X12_readAsk_49 rfl (Nat.le_of_ble_eq_true rfl) (AMet.mono h (aw_toI (fun x5 σ4 h => ?_)))
      obtain ⟨hS4, h⟩ := h
      obtain ⟨hq, h⟩ := h
      refine aw_iast d_X12_readAsk_52 (by decide) (vp_of (St.len hS4 26 15 6 (by decide)) hq) ?_
      refine aw_aload_n (i := 0) d_X12_readAsk_53 rfl rfl ?_
      refine aw_ldcwS (tx := "at") (i := 1) (by decide +kernel) (by decide) d_X12_readAsk_54 ?_
      refine aw_callV0 (as := [xR (some (30, 1))]) mw_X12_wants_ (by decide +kernel) ml_RX12_281 rfl d_X12_readAsk_57 rfl (Nat.le_of_ble_eq_true rfl) (AMet.mono h (aw_toV (fun σ6 h => ?_)))
      obtain ⟨hS6, h⟩ := h
      refine aw_aload_n (i := 0) d_X12_readAsk_60 rfl rfl ?_
      refine aw_getRv fl_RX12_76 rfl (r := some (26, 16)) (St.get hS6 13 39 0 26 16 (by decide)) d_X12_readAsk_61 ?_
      refine aw_iload_n (i := 1) d_X12_readAsk_64 rfl rfl ?_
      refine aw_aload_n (i := 0) d_X12_readAsk_65 rfl rfl ?_
      refine aw_iconst (x := 0) d_X12_readAsk_66 (by decide) ?_
      refine aw_sipush (x := 1439) d_X12_readAsk_67 (by decide) ?_
      refine aw_callV0 (as := [xI 0, xI 1439]) mw_X12_number (by decide +kernel) ml_RX12_260 rfl d_X12_readAsk_70 rfl (Nat.le_of_ble_eq_true rfl) (AMet.mono h (aw_toI (fun x8 σ7 h => ?_)))
      obtain ⟨hS7, h⟩ := h
      obtain ⟨hq, h⟩ := h
      refine aw_iast d_X12_readAsk_73 (by decide) (vp_of (St.len hS7 26 16 6 (by decide)) hq) ?_
      refine aw_aload_n (i := 0) d_X12_readAsk_74 rfl rfl ?_
      refine aw_ldcwS (tx := "for") (i := 2) (by decide +kernel) (by decide) d_X12_readAsk_75 ?_
      refine aw_callV0 (as := [xR (some (30, 2))]) mw_X12_wants_ (by decide +kernel) ml_RX12_281 rfl d_X12_readAsk_78 rfl (Nat.le_of_ble_eq_true rfl) (AMet.mono h (aw_toV (fun σ9 h => ?_)))
      obtain ⟨hS9, h⟩ := h
      refine aw_aload_n (i := 0) d_X12_readAsk_81 rfl rfl ?_
      refine aw_getRv fl_RX12_79 rfl (r := some (26, 17)) (St.get hS9 13 40 0 26 17 (by decide)) d_X12_readAsk_82 ?_
      refine aw_iload_n (i := 1) d_X12_readAsk_85 rfl rfl ?_
      refine aw_aload_n (i := 0) d_X12_readAsk_86 rfl rfl ?_
      refine aw_iconst (x := 1) d_X12_readAsk_87 (by decide) ?_
      refine aw_sipush (x := 600) d_X12_readAsk_88 (by decide) ?_
      refine aw_callV0 (as := [xI 1, xI 600]) mw_X12_number (by decide +kernel) ml_RX12_260 rfl d_X12_readAsk_91 rfl (Nat.le_of_ble_eq_true rfl) (AMet.mono h (aw_toI (fun x11 σ10 h => ?_)))
      obtain ⟨hS10, h⟩ := h
      obtain ⟨hq, h⟩ := h
      refine aw_iast d_X12_readAsk_94 (by decide) (vp_of (St.len hS10 26 17 6 (by decide)) hq) ?_
      refine aw_aload_n (i := 0) d_X12_readAsk_95 rfl rfl ?_
      refine aw_ldcwS (tx := "want") (i := 3) (by decide +kernel) (by decide) d_X12_readAsk_96 ?_
      refine aw_callV0 (as := [xR (some (30, 3))]) mw_X12_wants_ (by decide +kernel) ml_RX12_281 rfl d_X12_readAsk_99 rfl (Nat.le_of_ble_eq_true rfl) (AMet.mono h (aw_toV (fun σ12 h => ?_)))
      obtain ⟨hS12, h⟩ := h
      refine aw_aload_n (i := 0) d_X12_readAsk_102 rfl rfl ?_
      refine aw_getRv fl_RX12_82 rfl (r := some (26, 18)) (St.get hS12 13 41 0 26 18 (by decide)) d_X12_readAsk_103 ?_
      refine aw_iload_n (i := 1) d_X12_readAsk_106 rfl rfl ?_
      refine aw_aload_n (i := 0) d_X12_readAsk_107 rfl rfl ?_
      refine aw_iconst (x := 1) d_X12_readAsk_108 (by decide) ?_
      refine aw_bipush (x := 8) d_X12_readAsk_109 (by decide) ?_
      refine aw_callV0 (as := [xI 1, xI 8]) mw_X12_number (by decide +kernel) ml_RX12_260 rfl d_X12_readAsk_111 rfl (Nat.le_of_ble_eq_true rfl) (AMet.mono h (aw_toI (fun x14 σ13 h => ?_)))
      obtain ⟨hS13, h⟩ := h
      obtain ⟨hq, h⟩ := h
      refine aw_iast d_X12_readAsk_114 (by decide) (vp_of (St.len hS13 26 18 6 (by decide)) hq) ?_
      refine aw_aload_n (i := 0) d_X12_readAsk_115 rfl rfl ?_
      refine aw_getIv fl_RX12_221 rfl (x := gI σ13 13 24 0) rfl d_X12_readAsk_116 ?_
      refine aw_if_ne (tgt := 136) d_X12_readAsk_119 (by decide) (fun c => ?_) (fun c => ?_)
      · have h := h.1 c
        refine aw_aload_n (i := 0) d_X12_readAsk_136 rfl rfl ?_
        refine aw_getIv fl_RX12_221 rfl (x := gI σ13 13 24 0) rfl d_X12_readAsk_137 ?_
        refine aw_if_eq (tgt := 144) d_X12_readAsk_140 (by decide) (fun c => ?_) (fun c => ?_)
        · have h := h.1 c
          refine aw_aload_n (i := 0) d_X12_readAsk_144 rfl rfl ?_
          refine aw_getRv fl_RX12_85 rfl (r := some (26, 19)) (St.get (St.sA hS13) 13 42 0 26 19 (by decide)) d_X12_readAsk_145 ?_
          refine aw_iload_n (i := 1) d_X12_readAsk_148 rfl rfl ?_
          refine aw_aload_n (i := 0) d_X12_readAsk_149 rfl rfl ?_
          refine aw_getIv fl_RX12_186 rfl (x := gI σ13 13 20 0) rfl d_X12_readAsk_150 ?_
          obtain ⟨hq, h⟩ := h
          refine aw_iast d_X12_readAsk_153 (by decide) (vp_of (St.len (St.sA hS13) 26 19 6 (by decide)) hq) ?_
          refine aw_aload_n (i := 0) d_X12_readAsk_154 rfl rfl ?_
          refine aw_callV0 (as := []) mw_X12_next (by decide +kernel) ml_RX12_208 rfl d_X12_readAsk_155 rfl (Nat.le_of_ble_eq_true rfl) (AMet.mono h (aw_toV (fun σ15 h => ?_)))
          refine aw_aload_n (i := 0) d_X12_readAsk_158 rfl rfl ?_
          refine aw_iconst (x := 0) d_X12_readAsk_159 (by decide) ?_
          refine aw_callV0 (as := [xI 0]) mw_X12_either (by decide +kernel) ml_RX12_250 rfl d_X12_readAsk_160 rfl (Nat.le_of_ble_eq_true rfl) (AMet.mono h (aw_toI (fun x17 σ16 h => ?_)))
          refine aw_popI d_X12_readAsk_163 ?_
          refine aw_aload_n (i := 0) d_X12_readAsk_164 rfl rfl ?_
          refine aw_bipush (x := 59) d_X12_readAsk_165 (by decide) ?_
          refine aw_callV0 (as := [xI 59]) mw_X12_wants (by decide +kernel) ml_RX12_253 rfl d_X12_readAsk_167 rfl (Nat.le_of_ble_eq_true rfl) (AMet.mono h (aw_toV (fun σ18 h => ?_)))
          refine aw_aload_n (i := 0) d_X12_readAsk_170 rfl rfl ?_
          refine aw_dupR d_X12_readAsk_171 ?_
          refine aw_getI fl_RX12_277 rfl d_X12_readAsk_172 ?_
          refine aw_iconst (x := 1) d_X12_readAsk_175 (by decide) ?_
          refine aw_iadd d_X12_readAsk_176 ?_
          refine aw_putI fl_RX12_277 (by decide) (fin_no (r := (RX12, TX12, 68)) rfl rfl) d_X12_readAsk_177 rfl ⟨rfl, rfl⟩ ?_
          exact aw_vret d_X12_readAsk_180 rfl h
        · have h := h.2 c
          exact aw_vret d_X12_readAsk_143 rfl h
      · have h := h.2 c
        refine aw_aload_n (i := 0) d_X12_readAsk_122 rfl rfl ?_
        refine aw_bipush (x := 58) d_X12_readAsk_123 (by decide) ?_
        refine aw_callV0 (as := [xI 58]) mw_X12_is (by decide +kernel) ml_RX12_227 rfl d_X12_readAsk_125 rfl (Nat.le_of_ble_eq_true rfl) (AMet.mono h (aw_toI (fun x20 σ19 h => ?_)))
        obtain ⟨hS19, h⟩ := h
        refine aw_if_ne (tgt := 136) d_X12_readAsk_128 (by decide) (fun c => ?_) (fun c => ?_)
        · have h := h.1 c
          refine aw_aload_n (i := 0) d_X12_readAsk_136 rfl rfl ?_
          refine aw_getI fl_RX12_221 rfl d_X12_readAsk_137 ?_
          refine aw_if_eq (tgt := 144) d_X12_readAsk_140 (by decide) (fun c => ?_) (fun c => ?_)
          · have h := h.1 c
            refine aw_aload_n (i := 0) d_X12_readAsk_144 rfl rfl ?_
            refine aw_getRv fl_RX12_85 rfl (r := some (26, 19)) (St.get hS19 13 42 0 26 19 (by decide)) d_X12_readAsk_145 ?_
            refine aw_iload_n (i := 1) d_X12_readAsk_148 rfl rfl ?_
            refine aw_aload_n (i := 0) d_X12_readAsk_149 rfl rfl ?_
            refine aw_getI fl_RX12_186 rfl d_X12_readAsk_150 ?_
            obtain ⟨hq, h⟩ := h
            refine aw_iast d_X12_readAsk_153 (by decide) (vp_of (St.len hS19 26 19 6 (by decide)) hq) ?_
            refine aw_aload_n (i := 0) d_X12_readAsk_154 rfl rfl ?_
            refine aw_callV0 (as := []) mw_X12_next (by decide +kernel) ml_RX12_208 rfl d_X12_readAsk_155 rfl (Nat.le_of_ble_eq_true rfl) (AMet.mono h (aw_toV (fun σ21 h => ?_)))
            refine aw_aload_n (i := 0) d_X12_readAsk_158 rfl rfl ?_
            refine aw_iconst (x := 0) d_X12_readAsk_159 (by decide) ?_
            refine aw_callV0 (as := [xI 0]) mw_X12_either (by decide +kernel) ml_RX12_250 rfl d_X12_readAsk_160 rfl (Nat.le_of_ble_eq_true rfl) (AMet.mono h (aw_toI (fun x23 σ22 h => ?_)))
            refine aw_popI d_X12_readAsk_163 ?_
            refine aw_aload_n (i := 0) d_X12_readAsk_164 rfl rfl ?_
            refine aw_bipush (x := 59) d_X12_readAsk_165 (by decide) ?_
            refine aw_callV0 (as := [xI 59]) mw_X12_wants (by decide +kernel) ml_RX12_253 rfl d_X12_readAsk_167 rfl (Nat.le_of_ble_eq_true rfl) (AMet.mono h (aw_toV (fun σ24 h => ?_)))
            refine aw_aload_n (i := 0) d_X12_readAsk_170 rfl rfl ?_
            refine aw_dupR d_X12_readAsk_171 ?_
            refine aw_getI fl_RX12_277 rfl d_X12_readAsk_172 ?_
            refine aw_iconst (x := 1) d_X12_readAsk_175 (by decide) ?_
            refine aw_iadd d_X12_readAsk_176 ?_
            refine aw_putI fl_RX12_277 (by decide) (fin_no (r := (RX12, TX12, 68)) rfl rfl) d_X12_readAsk_177 rfl ⟨rfl, rfl⟩ ?_
            exact aw_vret d_X12_readAsk_180 rfl h
          · have h := h.2 c
            exact aw_vret d_X12_readAsk_143 rfl h
        · have h := h.2 c
          refine aw_aload_n (i := 0) d_X12_readAsk_131 rfl rfl ?_
          refine aw_iconst (x := 1) d_X12_readAsk_132 (by decide) ?_
          refine aw_callV0 (as := [xI 1]) mw_X12_fails (by decide +kernel) ml_RX12_230 rfl d_X12_readAsk_133 rfl (Nat.le_of_ble_eq_true rfl) (AMet.mono h (aw_toV (fun σ25 h => ?_)))
          obtain ⟨hS25, h⟩ := h
          refine aw_aload_n (i := 0) d_X12_readAsk_136 rfl rfl ?_
          refine aw_getI fl_RX12_221 rfl d_X12_readAsk_137 ?_
          refine aw_if_eq (tgt := 144) d_X12_readAsk_140 (by decide) (fun c => ?_) (fun c => ?_)
          · have h := h.1 c
            refine aw_aload_n (i := 0) d_X12_readAsk_144 rfl rfl ?_
            refine aw_getRv fl_RX12_85 rfl (r := some (26, 19)) (St.get hS25 13 42 0 26 19 (by decide)) d_X12_readAsk_145 ?_
            refine aw_iload_n (i := 1) d_X12_readAsk_148 rfl rfl ?_
            refine aw_aload_n (i := 0) d_X12_readAsk_149 rfl rfl ?_
            refine aw_getI fl_RX12_186 rfl d_X12_readAsk_150 ?_
            obtain ⟨hq, h⟩ := h
            refine aw_iast d_X12_readAsk_153 (by decide) (vp_of (St.len hS25 26 19 6 (by decide)) hq) ?_
            refine aw_aload_n (i := 0) d_X12_readAsk_154 rfl rfl ?_
            refine aw_callV0 (as := []) mw_X12_next (by decide +kernel) ml_RX12_208 rfl d_X12_readAsk_155 rfl (Nat.le_of_ble_eq_true rfl) (AMet.mono h (aw_toV (fun σ26 h => ?_)))
            refine aw_aload_n (i := 0) d_X12_readAsk_158 rfl rfl ?_
            refine aw_iconst (x := 0) d_X12_readAsk_159 (by decide) ?_
            refine aw_callV0 (as := [xI 0]) mw_X12_either (by decide +kernel) ml_RX12_250 rfl d_X12_readAsk_160 rfl (Nat.le_of_ble_eq_true rfl) (AMet.mono h (aw_toI (fun x28 σ27 h => ?_)))
            refine aw_popI d_X12_readAsk_163 ?_
            refine aw_aload_n (i := 0) d_X12_readAsk_164 rfl rfl ?_
            refine aw_bipush (x := 59) d_X12_readAsk_165 (by decide) ?_
            refine aw_callV0 (as := [xI 59]) mw_X12_wants (by decide +kernel) ml_RX12_253 rfl d_X12_readAsk_167 rfl (Nat.le_of_ble_eq_true rfl) (AMet.mono h (aw_toV (fun σ29 h => ?_)))
            refine aw_aload_n (i := 0) d_X12_readAsk_170 rfl rfl ?_
            refine aw_dupR d_X12_readAsk_171 ?_
            refine aw_getI fl_RX12_277 rfl d_X12_readAsk_172 ?_
            refine aw_iconst (x := 1) d_X12_readAsk_175 (by decide) ?_
            refine aw_iadd d_X12_readAsk_176 ?_
            refine aw_putI fl_RX12_277 (by decide) (fin_no (r := (RX12, TX12, 68)) rfl rfl) d_X12_readAsk_177 rfl ⟨rfl, rfl⟩ ?_
            exact aw_vret d_X12_readAsk_180 rfl h
          · have h := h.2 c
            exact aw_vret d_X12_readAsk_143 rfl h
    · have h := h.2 c
      refine aw_aload_n (i := 0) d_X12_readAsk_25 rfl rfl ?_
      refine aw_iconst (x := 2) d_X12_readAsk_26 (by decide) ?_
      refine aw_callV0 (as := [xI 2]) mw_X12_fails (by decide +kernel) ml_RX12_230 rfl d_X12_readAsk_27 rfl (Nat.le_of_ble_eq_true rfl) (AMet.mono h (aw_toV (fun σ30 h => ?_)))
      exact aw_vret d_X12_readAsk_30 rfl h
  · have h := h.2 c
    refine aw_aload_n (i := 0) d_X12_readAsk_10 rfl rfl ?_
    refine aw_iconst (x := 1) d_X12_readAsk_11 (by decide) ?_
    refine aw_callV0 (as := [xI 1]) mw_X12_fails (by decide +kernel) ml_RX12_230 rfl d_X12_readAsk_12 rfl (Nat.le_of_ble_eq_true rfl) (AMet.mono h (aw_toV (fun σ31 h => ?_)))
    exact aw_vret d_X12_readAsk_15 rfl h
set_option maxRecDepth 20000 in
theorem vc_X12_nobody {G : GG} {l : Launch} {d : Nat} {post : Option AVal → AS → Prop} {σ : AS} {kk nn : Nat}  (h : AW G l M_X12_nobody d post σ kk nn 2 [some (xR (some (13, 0))), some (xI 0)] []) : AW G l M_X12_nobody d post σ kk nn 0 [some (xR (some (13, 0))), none] [] := by
  refine aw_iconst (x := 0) d_X12_nobody_0 (by decide) ?_
  refine aw_istore_n (i := 1) d_X12_nobody_1 rfl (by decide) ?_
  exact h
set_option maxRecDepth 20000 in
theorem vc_X12_nobody_2 {G : GG} {l : Launch} {d : Nat} {post : Option AVal → AS → Prop} {σ : AS} {kk nn : Nat} {v1 : Int32} (hS : St σ) (h : (((40 ≤ v1 → post none σ)) ∧ ((¬ 40 ≤ v1 → (vp_in v1 40 ∧ AW G l M_X12_nobody d post (sA σ 26 7 v1.toNatClampNeg (-1)) kk nn 2 [some (xR (some (13, 0))), some (xI (v1 + 1))] []))))) : AW G l M_X12_nobody d post σ kk nn 2 [some (xR (some (13, 0))), some (xI v1)] [] := by
  refine aw_iload_n (i := 1) d_X12_nobody_2 rfl rfl ?_
  refine aw_bipush (x := 40) d_X12_nobody_3 (by decide) ?_
  refine aw_icmp_ge (tgt := 21) d_X12_nobody_5 (by decide) (fun c => ?_) (fun c => ?_)
  · have h := h.1 c
    exact aw_vret d_X12_nobody_21 rfl h
  · have h := h.2 c
    refine aw_aload_n (i := 0) d_X12_nobody_8 rfl rfl ?_
    refine aw_getRv fl_RX12_39 rfl (r := some (26, 7)) (St.get hS 13 11 0 26 7 (by decide)) d_X12_nobody_9 ?_
    refine aw_iload_n (i := 1) d_X12_nobody_12 rfl rfl ?_
    refine aw_iconst (x := -1) d_X12_nobody_13 (by decide) ?_
    obtain ⟨hq, h⟩ := h
    refine aw_iast d_X12_nobody_14 (by decide) (vp_of (St.len hS 26 7 40 (by decide)) hq) ?_
    refine aw_iinc (i := 1) (v := v1 + 1) d_X12_nobody_15 rfl rfl (by decide) ?_
    refine aw_goto (tgt := 2) d_X12_nobody_18 (by decide) ?_
    exact h
set_option maxRecDepth 20000 in
theorem vc_X12_asks {G : GG} {l : Launch} {d : Nat} {post : Option AVal → AS → Prop} {σ : AS} {kk nn : Nat}  (hS : St σ) (h : AMet G l M_X12_starts d 0 0 [xR (some (13, 0)), xR (some (22, 0)), xI (gI σ 13 17 0), xI 0] (sI (sI (sI (sI σ 13 0 0 0) 13 24 0 0) 13 27 0 1) 13 37 0 0) (retV (fun σ1 => AW G l M_X12_asks (d + 1) post σ1 kk nn 33 [some (xR (some (13, 0))), none, none] []))) : AW G l M_X12_asks (d + 1) post σ kk nn 0 [some (xR (some (13, 0))), none, none] [] := by
  refine aw_aload_n (i := 0) d_X12_asks_0 rfl rfl ?_
  refine aw_iconst (x := 0) d_X12_asks_1 (by decide) ?_
  refine aw_putI fl_RX12_1 (by decide) (fin_no (r := (RX12, TX12, 68)) rfl rfl) d_X12_asks_2 rfl ⟨rfl, rfl⟩ ?_
  refine aw_aload_n (i := 0) d_X12_asks_5 rfl rfl ?_
  refine aw_iconst (x := 0) d_X12_asks_6 (by decide) ?_
  refine aw_putI fl_RX12_221 (by decide) (fin_no (r := (RX12, TX12, 68)) rfl rfl) d_X12_asks_7 rfl ⟨rfl, rfl⟩ ?_
  refine aw_aload_n (i := 0) d_X12_asks_10 rfl rfl ?_
  refine aw_iconst (x := 1) d_X12_asks_11 (by decide) ?_
  refine aw_putI fl_RX12_263 (by decide) (fin_no (r := (RX12, TX12, 68)) rfl rfl) d_X12_asks_12 rfl (by decide) ?_
  refine aw_aload_n (i := 0) d_X12_asks_15 rfl rfl ?_
  refine aw_iconst (x := 0) d_X12_asks_16 (by decide) ?_
  refine aw_putI fl_RX12_277 (by decide) (fin_no (r := (RX12, TX12, 68)) rfl rfl) d_X12_asks_17 rfl ⟨rfl, rfl⟩ ?_
  refine aw_aload_n (i := 0) d_X12_asks_20 rfl rfl ?_
  refine aw_aload_n (i := 0) d_X12_asks_21 rfl rfl ?_
  refine aw_getRv fl_RX12_48 rfl (r := some (22, 0)) (St.get (St.sI (St.sI (St.sI (St.sI hS)))) 13 16 0 22 0 (by decide)) d_X12_asks_22 ?_
  refine aw_aload_n (i := 0) d_X12_asks_25 rfl rfl ?_
  refine aw_getIv fl_RX12_177 rfl (x := gI σ 13 17 0) rfl d_X12_asks_26 ?_
  refine aw_iconst (x := 0) d_X12_asks_29 (by decide) ?_
  refine aw_callV0 (as := [xR (some (22, 0)), xI (gI σ 13 17 0), xI 0]) mw_X12_starts (by decide +kernel) ml_RX12_288 rfl d_X12_asks_30 rfl (Nat.le_of_ble_eq_true rfl) (AMet.mono h (aw_toV (fun σ1 h => ?_)))
  exact h
set_option maxRecDepth 20000 in
theorem vc_X12_asks_33 {G : GG} {l : Launch} {d : Nat} {post : Option AVal → AS → Prop} {σ : AS} {kk nn : Nat}  (h : (((¬ (gI σ 13 24 0) = 0 → (((¬ (gI σ 13 24 0) = 0 → ((((gI σ 13 24 0) = 0 → AW G l M_X12_asks (d + 1) post (sI (sI σ 13 17 0 0) 13 26 0 (gI σ 13 25 0)) kk nn 100 [some (xR (some (13, 0))), some (xI (gI σ 13 17 0)), some (xI 0)] [])) ∧ ((¬ (gI σ 13 24 0) = 0 → post (some (xI ((-2) - (gI σ 13 24 0)))) (sI (sI σ 13 17 0 0) 13 26 0 (gI σ 13 25 0))))))) ∧ (((gI σ 13 24 0) = 0 → ((((gI σ 13 24 0) = 0 → AW G l M_X12_asks (d + 1) post (sI (sI σ 13 17 0 0) 13 26 0 (-1)) kk nn 100 [some (xR (some (13, 0))), some (xI (gI σ 13 17 0)), some (xI 0)] [])) ∧ ((¬ (gI σ 13 24 0) = 0 → post (some (xI ((-2) - (gI σ 13 24 0)))) (sI (sI σ 13 17 0 0) 13 26 0 (-1)))))))))) ∧ (((gI σ 13 24 0) = 0 → ((((gI σ 13 22 0) = 0 → (((¬ (gI σ 13 24 0) = 0 → ((((gI σ 13 24 0) = 0 → AW G l M_X12_asks (d + 1) post (sI (sI σ 13 17 0 0) 13 26 0 (gI σ 13 25 0)) kk nn 100 [some (xR (some (13, 0))), some (xI (gI σ 13 17 0)), some (xI 0)] [])) ∧ ((¬ (gI σ 13 24 0) = 0 → post (some (xI ((-2) - (gI σ 13 24 0)))) (sI (sI σ 13 17 0 0) 13 26 0 (gI σ 13 25 0))))))) ∧ (((gI σ 13 24 0) = 0 → ((((gI σ 13 24 0) = 0 → AW G l M_X12_asks (d + 1) post (sI (sI σ 13 17 0 0) 13 26 0 (-1)) kk nn 100 [some (xR (some (13, 0))), some (xI (gI σ 13 17 0)), some (xI 0)] [])) ∧ ((¬ (gI σ 13 24 0) = 0 → post (some (xI ((-2) - (gI σ 13 24 0)))) (sI (sI σ 13 17 0 0) 13 26 0 (-1)))))))))) ∧ ((¬ (gI σ 13 22 0) = 0 → AMet G l M_X12_readAsk d 0 0 [xR (some (13, 0))] σ (retV (fun σ2 => AW G l M_X12_asks (d + 1) post σ2 kk nn 33 [some (xR (some (13, 0))), none, none] []))))))))) : AW G l M_X12_asks (d + 1) post σ kk nn 33 [some (xR (some (13, 0))), none, none] [] := by
  refine aw_aload_n (i := 0) d_X12_asks_33 rfl rfl ?_
  refine aw_getI fl_RX12_221 rfl d_X12_asks_34 ?_
  refine aw_if_ne (tgt := 54) d_X12_asks_37 (by decide) (fun c => ?_) (fun c => ?_)
  · have h := h.1 c
    refine aw_aload_n (i := 0) d_X12_asks_54 rfl rfl ?_
    refine aw_getI fl_RX12_177 rfl d_X12_asks_55 ?_
    refine aw_istore_n (i := 1) d_X12_asks_58 rfl (by decide) ?_
    refine aw_aload_n (i := 0) d_X12_asks_59 rfl rfl ?_
    refine aw_iconst (x := 0) d_X12_asks_60 (by decide) ?_
    refine aw_putI fl_RX12_177 (by decide) (fin_no (r := (RX12, TX12, 68)) rfl rfl) d_X12_asks_61 rfl ⟨rfl, rfl⟩ ?_
    refine aw_aload_n (i := 0) d_X12_asks_64 rfl rfl ?_
    refine aw_aload_n (i := 0) d_X12_asks_65 rfl rfl ?_
    refine aw_getIv fl_RX12_221 rfl (x := gI σ 13 24 0) rfl d_X12_asks_66 ?_
    refine aw_if_ne (tgt := 76) d_X12_asks_69 (by decide) (fun c => ?_) (fun c => ?_)
    · have h := h.1 c
      refine aw_aload_n (i := 0) d_X12_asks_76 rfl rfl ?_
      refine aw_getIv fl_RX12_224 rfl (x := gI σ 13 25 0) rfl d_X12_asks_77 ?_
      refine aw_putI fl_RX12_52 (by decide) (fin_no (r := (RX12, TX12, 68)) rfl rfl) d_X12_asks_80 rfl ⟨rfl, rfl⟩ ?_
      refine aw_aload_n (i := 0) d_X12_asks_83 rfl rfl ?_
      refine aw_getIv fl_RX12_221 rfl (x := gI σ 13 24 0) rfl d_X12_asks_84 ?_
      refine aw_if_eq (tgt := 98) d_X12_asks_87 (by decide) (fun c => ?_) (fun c => ?_)
      · have h := h.1 c
        refine aw_iconst (x := 0) d_X12_asks_98 (by decide) ?_
        refine aw_istore_n (i := 2) d_X12_asks_99 rfl (by decide) ?_
        exact h
      · have h := h.2 c
        refine aw_bipush (x := -2) d_X12_asks_90 (by decide) ?_
        refine aw_aload_n (i := 0) d_X12_asks_92 rfl rfl ?_
        refine aw_getIv fl_RX12_221 rfl (x := gI σ 13 24 0) rfl d_X12_asks_93 ?_
        refine aw_isub d_X12_asks_96 ?_
        exact aw_ret d_X12_asks_97 rfl rfl h
    · have h := h.2 c
      refine aw_iconst (x := -1) d_X12_asks_72 (by decide) ?_
      refine aw_goto (tgt := 80) d_X12_asks_73 (by decide) ?_
      refine aw_putI fl_RX12_52 (by decide) (fin_no (r := (RX12, TX12, 68)) rfl rfl) d_X12_asks_80 rfl ⟨rfl, rfl⟩ ?_
      refine aw_aload_n (i := 0) d_X12_asks_83 rfl rfl ?_
      refine aw_getIv fl_RX12_221 rfl (x := gI σ 13 24 0) rfl d_X12_asks_84 ?_
      refine aw_if_eq (tgt := 98) d_X12_asks_87 (by decide) (fun c => ?_) (fun c => ?_)
      · have h := h.1 c
        refine aw_iconst (x := 0) d_X12_asks_98 (by decide) ?_
        refine aw_istore_n (i := 2) d_X12_asks_99 rfl (by decide) ?_
        exact h
      · have h := h.2 c
        refine aw_bipush (x := -2) d_X12_asks_90 (by decide) ?_
        refine aw_aload_n (i := 0) d_X12_asks_92 rfl rfl ?_
        refine aw_getIv fl_RX12_221 rfl (x := gI σ 13 24 0) rfl d_X12_asks_93 ?_
        refine aw_isub d_X12_asks_96 ?_
        exact aw_ret d_X12_asks_97 rfl rfl h
  · have h := h.2 c
    refine aw_aload_n (i := 0) d_X12_asks_40 rfl rfl ?_
    refine aw_getI fl_RX12_192 rfl d_X12_asks_41 ?_
    refine aw_if_eq (tgt := 54) d_X12_asks_44 (by decide) (fun c => ?_) (fun c => ?_)
    · have h := h.1 c
      refine aw_aload_n (i := 0) d_X12_asks_54 rfl rfl ?_
      refine aw_getI fl_RX12_177 rfl d_X12_asks_55 ?_
      refine aw_istore_n (i := 1) d_X12_asks_58 rfl (by decide) ?_
      refine aw_aload_n (i := 0) d_X12_asks_59 rfl rfl ?_
      refine aw_iconst (x := 0) d_X12_asks_60 (by decide) ?_
      refine aw_putI fl_RX12_177 (by decide) (fin_no (r := (RX12, TX12, 68)) rfl rfl) d_X12_asks_61 rfl ⟨rfl, rfl⟩ ?_
      refine aw_aload_n (i := 0) d_X12_asks_64 rfl rfl ?_
      refine aw_aload_n (i := 0) d_X12_asks_65 rfl rfl ?_
      refine aw_getIv fl_RX12_221 rfl (x := gI σ 13 24 0) rfl d_X12_asks_66 ?_
      refine aw_if_ne (tgt := 76) d_X12_asks_69 (by decide) (fun c => ?_) (fun c => ?_)
      · have h := h.1 c
        refine aw_aload_n (i := 0) d_X12_asks_76 rfl rfl ?_
        refine aw_getIv fl_RX12_224 rfl (x := gI σ 13 25 0) rfl d_X12_asks_77 ?_
        refine aw_putI fl_RX12_52 (by decide) (fin_no (r := (RX12, TX12, 68)) rfl rfl) d_X12_asks_80 rfl ⟨rfl, rfl⟩ ?_
        refine aw_aload_n (i := 0) d_X12_asks_83 rfl rfl ?_
        refine aw_getIv fl_RX12_221 rfl (x := gI σ 13 24 0) rfl d_X12_asks_84 ?_
        refine aw_if_eq (tgt := 98) d_X12_asks_87 (by decide) (fun c => ?_) (fun c => ?_)
        · have h := h.1 c
          refine aw_iconst (x := 0) d_X12_asks_98 (by decide) ?_
          refine aw_istore_n (i := 2) d_X12_asks_99 rfl (by decide) ?_
          exact h
        · have h := h.2 c
          refine aw_bipush (x := -2) d_X12_asks_90 (by decide) ?_
          refine aw_aload_n (i := 0) d_X12_asks_92 rfl rfl ?_
          refine aw_getIv fl_RX12_221 rfl (x := gI σ 13 24 0) rfl d_X12_asks_93 ?_
          refine aw_isub d_X12_asks_96 ?_
          exact aw_ret d_X12_asks_97 rfl rfl h
      · have h := h.2 c
        refine aw_iconst (x := -1) d_X12_asks_72 (by decide) ?_
        refine aw_goto (tgt := 80) d_X12_asks_73 (by decide) ?_
        refine aw_putI fl_RX12_52 (by decide) (fin_no (r := (RX12, TX12, 68)) rfl rfl) d_X12_asks_80 rfl ⟨rfl, rfl⟩ ?_
        refine aw_aload_n (i := 0) d_X12_asks_83 rfl rfl ?_
        refine aw_getIv fl_RX12_221 rfl (x := gI σ 13 24 0) rfl d_X12_asks_84 ?_
        refine aw_if_eq (tgt := 98) d_X12_asks_87 (by decide) (fun c => ?_) (fun c => ?_)
        · have h := h.1 c
          refine aw_iconst (x := 0) d_X12_asks_98 (by decide) ?_
          refine aw_istore_n (i := 2) d_X12_asks_99 rfl (by decide) ?_
          exact h
        · have h := h.2 c
          refine aw_bipush (x := -2) d_X12_asks_90 (by decide) ?_
          refine aw_aload_n (i := 0) d_X12_asks_92 rfl rfl ?_
          refine aw_getIv fl_RX12_221 rfl (x := gI σ 13 24 0) rfl d_X12_asks_93 ?_
          refine aw_isub d_X12_asks_96 ?_
          exact aw_ret d_X12_asks_97 rfl rfl h
    · have h := h.2 c
      refine aw_aload_n (i := 0) d_X12_asks_47 rfl rfl ?_
      refine aw_callV0 (as := []) mw_X12_readAsk (by decide +kernel) ml_RX12_292 rfl d_X12_asks_48 rfl (Nat.le_of_ble_eq_true rfl) (AMet.mono h (aw_toV (fun σ2 h => ?_)))
      refine aw_goto (tgt := 33) d_X12_asks_51 (by decide) ?_
      exact h
set_option maxRecDepth 20000 in
theorem vc_X12_asks_100 {G : GG} {l : Launch} {d : Nat} {post : Option AVal → AS → Prop} {σ : AS} {kk nn : Nat} {v1 : Int32} {v2 : Int32} (hS : St σ) (h : (((v1 ≤ v2 → AW G l M_X12_asks (d + 1) post (sI (sI σ 13 31 0 v1) 13 29 0 (gI σ 13 37 0)) kk nn 138 [some (xR (some (13, 0))), none, some (xI 0)] [])) ∧ ((¬ v1 ≤ v2 → (vp_in v2 1000 ∧ (vp_in v2 1000 ∧ AW G l M_X12_asks (d + 1) post (sA σ 22 1 v2.toNatClampNeg (vp_nar .byte (gA σ 22 0 v2.toNatClampNeg))) kk nn 100 [some (xR (some (13, 0))), some (xI v1), some (xI (v2 + 1))] [])))))) : AW G l M_X12_asks (d + 1) post σ kk nn 100 [some (xR (some (13, 0))), some (xI v1), some (xI v2)] [] := by
  refine aw_iload_n (i := 2) d_X12_asks_100 rfl rfl ?_
  refine aw_iload_n (i := 1) d_X12_asks_101 rfl rfl ?_
  refine aw_icmp_ge (tgt := 123) d_X12_asks_102 (by decide) (fun c => ?_) (fun c => ?_)
  · have h := h.1 c
    refine aw_aload_n (i := 0) d_X12_asks_123 rfl rfl ?_
    refine aw_iload_n (i := 1) d_X12_asks_124 rfl rfl ?_
    refine aw_putI fl_RX12_295 (by decide) (fin_no (r := (RX12, TX12, 68)) rfl rfl) d_X12_asks_125 rfl ⟨rfl, rfl⟩ ?_
    refine aw_aload_n (i := 0) d_X12_asks_128 rfl rfl ?_
    refine aw_aload_n (i := 0) d_X12_asks_129 rfl rfl ?_
    refine aw_getIv fl_RX12_277 rfl (x := gI σ 13 37 0) rfl d_X12_asks_130 ?_
    refine aw_putI fl_RX12_298 (by decide) (fin_no (r := (RX12, TX12, 68)) rfl rfl) d_X12_asks_133 rfl ⟨rfl, rfl⟩ ?_
    refine aw_iconst (x := 0) d_X12_asks_136 (by decide) ?_
    refine aw_istore_n (i := 2) d_X12_asks_137 rfl (by decide) ?_
    exact AW.weak h (by exact ⟨rfl, ⟨rfl, trivial⟩⟩)
  · have h := h.2 c
    refine aw_aload_n (i := 0) d_X12_asks_105 rfl rfl ?_
    refine aw_getRv fl_RX12_55 rfl (r := some (22, 1)) (St.get hS 13 30 0 22 1 (by decide)) d_X12_asks_106 ?_
    refine aw_iload_n (i := 2) d_X12_asks_109 rfl rfl ?_
    refine aw_aload_n (i := 0) d_X12_asks_110 rfl rfl ?_
    refine aw_getRv fl_RX12_48 rfl (r := some (22, 0)) (St.get hS 13 16 0 22 0 (by decide)) d_X12_asks_111 ?_
    refine aw_iload_n (i := 2) d_X12_asks_114 rfl rfl ?_
    obtain ⟨hq, h⟩ := h
    refine aw_bald d_X12_asks_115 (vp_of (St.len hS 22 0 1000 (by decide)) hq) ?_
    obtain ⟨hq, h⟩ := h
    refine aw_bast d_X12_asks_116 (vp_of (St.len hS 22 1 1000 (by decide)) hq) ?_
    refine aw_iinc (i := 2) (v := v2 + 1) d_X12_asks_117 rfl rfl (by decide) ?_
    refine aw_goto (tgt := 100) d_X12_asks_120 (by decide) ?_
    exact h
set_option maxRecDepth 20000 in
theorem vc_X12_asks_138 {G : GG} {l : Launch} {d : Nat} {post : Option AVal → AS → Prop} {σ : AS} {kk nn : Nat} {v2 : Int32} (hS : St σ) (h : ((((gI σ 13 29 0) ≤ v2 → AMet G l M_X12_nobody d 0 0 [xR (some (13, 0))] σ (retV (fun σ3 => post (some (xI (gI σ3 13 29 0))) σ3)))) ∧ ((¬ (gI σ 13 29 0) ≤ v2 → (vp_in v2 6 ∧ (vp_in v2 6 ∧ (vp_in v2 6 ∧ (vp_in v2 6 ∧ (vp_in v2 6 ∧ (vp_in v2 6 ∧ (vp_in v2 6 ∧ (vp_in v2 6 ∧ (vp_in v2 6 ∧ (vp_in v2 6 ∧ AW G l M_X12_asks (d + 1) post (sA (sA (sA (sA (sA σ 26 10 v2.toNatClampNeg (gA σ 26 15 v2.toNatClampNeg)) 26 11 v2.toNatClampNeg (gA (sA σ 26 10 v2.toNatClampNeg (gA σ 26 15 v2.toNatClampNeg)) 26 16 v2.toNatClampNeg)) 26 12 v2.toNatClampNeg (gA (sA (sA σ 26 10 v2.toNatClampNeg (gA σ 26 15 v2.toNatClampNeg)) 26 11 v2.toNatClampNeg (gA (sA σ 26 10 v2.toNatClampNeg (gA σ 26 15 v2.toNatClampNeg)) 26 16 v2.toNatClampNeg)) 26 17 v2.toNatClampNeg)) 26 13 v2.toNatClampNeg (gA (sA (sA (sA σ 26 10 v2.toNatClampNeg (gA σ 26 15 v2.toNatClampNeg)) 26 11 v2.toNatClampNeg (gA (sA σ 26 10 v2.toNatClampNeg (gA σ 26 15 v2.toNatClampNeg)) 26 16 v2.toNatClampNeg)) 26 12 v2.toNatClampNeg (gA (sA (sA σ 26 10 v2.toNatClampNeg (gA σ 26 15 v2.toNatClampNeg)) 26 11 v2.toNatClampNeg (gA (sA σ 26 10 v2.toNatClampNeg (gA σ 26 15 v2.toNatClampNeg)) 26 16 v2.toNatClampNeg)) 26 17 v2.toNatClampNeg)) 26 18 v2.toNatClampNeg)) 26 14 v2.toNatClampNeg (gA (sA (sA (sA (sA σ 26 10 v2.toNatClampNeg (gA σ 26 15 v2.toNatClampNeg)) 26 11 v2.toNatClampNeg (gA (sA σ 26 10 v2.toNatClampNeg (gA σ 26 15 v2.toNatClampNeg)) 26 16 v2.toNatClampNeg)) 26 12 v2.toNatClampNeg (gA (sA (sA σ 26 10 v2.toNatClampNeg (gA σ 26 15 v2.toNatClampNeg)) 26 11 v2.toNatClampNeg (gA (sA σ 26 10 v2.toNatClampNeg (gA σ 26 15 v2.toNatClampNeg)) 26 16 v2.toNatClampNeg)) 26 17 v2.toNatClampNeg)) 26 13 v2.toNatClampNeg (gA (sA (sA (sA σ 26 10 v2.toNatClampNeg (gA σ 26 15 v2.toNatClampNeg)) 26 11 v2.toNatClampNeg (gA (sA σ 26 10 v2.toNatClampNeg (gA σ 26 15 v2.toNatClampNeg)) 26 16 v2.toNatClampNeg)) 26 12 v2.toNatClampNeg (gA (sA (sA σ 26 10 v2.toNatClampNeg (gA σ 26 15 v2.toNatClampNeg)) 26 11 v2.toNatClampNeg (gA (sA σ 26 10 v2.toNatClampNeg (gA σ 26 15 v2.toNatClampNeg)) 26 16 v2.toNatClampNeg)) 26 17 v2.toNatClampNeg)) 26 18 v2.toNatClampNeg)) 26 19 v2.toNatClampNeg)) kk nn 138 [some (xR (some (13, 0))), none, some (xI (v2 + 1))] [])))))))))))))) : AW G l M_X12_asks (d + 1) post σ kk nn 138 [some (xR (some (13, 0))), none, some (xI v2)] [] := by
  refine aw_iload_n (i := 2) d_X12_asks_138 rfl rfl ?_
  refine aw_aload_n (i := 0) d_X12_asks_139 rfl rfl ?_
  refine aw_getI fl_RX12_298 rfl d_X12_asks_140 ?_
  refine aw_icmp_ge (tgt := 212) d_X12_asks_143 (by decide) (fun c => ?_) (fun c => ?_)
  · have h := h.1 c
    refine aw_aload_n (i := 0) d_X12_asks_212 rfl rfl ?_
    refine aw_callV0 (as := []) mw_X12_nobody (by decide +kernel) ml_RX12_301 rfl d_X12_asks_213 rfl (Nat.le_of_ble_eq_true rfl) (AMet.mono h (aw_toV (fun σ3 h => ?_)))
    refine aw_aload_n (i := 0) d_X12_asks_216 rfl rfl ?_
    refine aw_getI fl_RX12_298 rfl d_X12_asks_217 ?_
    exact aw_ret d_X12_asks_220 rfl rfl h
  · have h := h.2 c
    refine aw_aload_n (i := 0) d_X12_asks_146 rfl rfl ?_
    refine aw_getRv fl_RX12_58 rfl (r := some (26, 10)) (St.get hS 13 32 0 26 10 (by decide)) d_X12_asks_147 ?_
    refine aw_iload_n (i := 2) d_X12_asks_150 rfl rfl ?_
    refine aw_aload_n (i := 0) d_X12_asks_151 rfl rfl ?_
    refine aw_getRv fl_RX12_73 rfl (r := some (26, 15)) (St.get hS 13 38 0 26 15 (by decide)) d_X12_asks_152 ?_
    refine aw_iload_n (i := 2) d_X12_asks_155 rfl rfl ?_
    obtain ⟨hq, h⟩ := h
    refine aw_iald d_X12_asks_156 (by decide) (vp_of (St.len hS 26 15 6 (by decide)) hq) ?_
    obtain ⟨hq, h⟩ := h
    refine aw_iast d_X12_asks_157 (by decide) (vp_of (St.len hS 26 10 6 (by decide)) hq) ?_
    refine aw_aload_n (i := 0) d_X12_asks_158 rfl rfl ?_
    refine aw_getRv fl_RX12_61 rfl (r := some (26, 11)) (St.get (St.sA hS) 13 33 0 26 11 (by decide)) d_X12_asks_159 ?_
    refine aw_iload_n (i := 2) d_X12_asks_162 rfl rfl ?_
    refine aw_aload_n (i := 0) d_X12_asks_163 rfl rfl ?_
    refine aw_getRv fl_RX12_76 rfl (r := some (26, 16)) (St.get (St.sA hS) 13 39 0 26 16 (by decide)) d_X12_asks_164 ?_
    refine aw_iload_n (i := 2) d_X12_asks_167 rfl rfl ?_
    obtain ⟨hq, h⟩ := h
    refine aw_iald d_X12_asks_168 (by decide) (vp_of (St.len (St.sA hS) 26 16 6 (by decide)) hq) ?_
    obtain ⟨hq, h⟩ := h
    refine aw_iast d_X12_asks_169 (by decide) (vp_of (St.len (St.sA hS) 26 11 6 (by decide)) hq) ?_
    refine aw_aload_n (i := 0) d_X12_asks_170 rfl rfl ?_
    refine aw_getRv fl_RX12_64 rfl (r := some (26, 12)) (St.get (St.sA (St.sA hS)) 13 34 0 26 12 (by decide)) d_X12_asks_171 ?_
    refine aw_iload_n (i := 2) d_X12_asks_174 rfl rfl ?_
    refine aw_aload_n (i := 0) d_X12_asks_175 rfl rfl ?_
    refine aw_getRv fl_RX12_79 rfl (r := some (26, 17)) (St.get (St.sA (St.sA hS)) 13 40 0 26 17 (by decide)) d_X12_asks_176 ?_
    refine aw_iload_n (i := 2) d_X12_asks_179 rfl rfl ?_
    obtain ⟨hq, h⟩ := h
    refine aw_iald d_X12_asks_180 (by decide) (vp_of (St.len (St.sA (St.sA hS)) 26 17 6 (by decide)) hq) ?_
    obtain ⟨hq, h⟩ := h
    refine aw_iast d_X12_asks_181 (by decide) (vp_of (St.len (St.sA (St.sA hS)) 26 12 6 (by decide)) hq) ?_
    refine aw_aload_n (i := 0) d_X12_asks_182 rfl rfl ?_
    refine aw_getRv fl_RX12_67 rfl (r := some (26, 13)) (St.get (St.sA (St.sA (St.sA hS))) 13 35 0 26 13 (by decide)) d_X12_asks_183 ?_
    refine aw_iload_n (i := 2) d_X12_asks_186 rfl rfl ?_
    refine aw_aload_n (i := 0) d_X12_asks_187 rfl rfl ?_
    refine aw_getRv fl_RX12_82 rfl (r := some (26, 18)) (St.get (St.sA (St.sA (St.sA hS))) 13 41 0 26 18 (by decide)) d_X12_asks_188 ?_
    refine aw_iload_n (i := 2) d_X12_asks_191 rfl rfl ?_
    obtain ⟨hq, h⟩ := h
    refine aw_iald d_X12_asks_192 (by decide) (vp_of (St.len (St.sA (St.sA (St.sA hS))) 26 18 6 (by decide)) hq) ?_
    obtain ⟨hq, h⟩ := h
    refine aw_iast d_X12_asks_193 (by decide) (vp_of (St.len (St.sA (St.sA (St.sA hS))) 26 13 6 (by decide)) hq) ?_
    refine aw_aload_n (i := 0) d_X12_asks_194 rfl rfl ?_
    refine aw_getRv fl_RX12_70 rfl (r := some (26, 14)) (St.get (St.sA (St.sA (St.sA (St.sA hS)))) 13 36 0 26 14 (by decide)) d_X12_asks_195 ?_
    refine aw_iload_n (i := 2) d_X12_asks_198 rfl rfl ?_
    refine aw_aload_n (i := 0) d_X12_asks_199 rfl rfl ?_
    refine aw_getRv fl_RX12_85 rfl (r := some (26, 19)) (St.get (St.sA (St.sA (St.sA (St.sA hS)))) 13 42 0 26 19 (by decide)) d_X12_asks_200 ?_
    refine aw_iload_n (i := 2) d_X12_asks_203 rfl rfl ?_
    obtain ⟨hq, h⟩ := h
    refine aw_iald d_X12_asks_204 (by decide) (vp_of (St.len (St.sA (St.sA (St.sA (St.sA hS)))) 26 19 6 (by decide)) hq) ?_
    obtain ⟨hq, h⟩ := h
    refine aw_iast d_X12_asks_205 (by decide) (vp_of (St.len (St.sA (St.sA (St.sA (St.sA hS)))) 26 14 6 (by decide)) hq) ?_
    refine aw_iinc (i := 2) (v := v2 + 1) d_X12_asks_206 rfl rfl (by decide) ?_
    refine aw_goto (tgt := 138) d_X12_asks_209 (by decide) ?_
    exact h
set_option maxRecDepth 20000 in
theorem vc_X12_place {G : GG} {l : Launch} {d : Nat} {post : Option AVal → AS → Prop} {σ : AS} {kk nn : Nat}  (h : post (some (xI (gI σ 13 26 0))) (sI σ 13 0 0 0)) : AW G l M_X12_place d post σ kk nn 0 [some (xR (some (13, 0)))] [] := by
  refine aw_aload_n (i := 0) d_X12_place_0 rfl rfl ?_
  refine aw_iconst (x := 0) d_X12_place_1 (by decide) ?_
  refine aw_putI fl_RX12_1 (by decide) (fin_no (r := (RX12, TX12, 68)) rfl rfl) d_X12_place_2 rfl ⟨rfl, rfl⟩ ?_
  refine aw_aload_n (i := 0) d_X12_place_5 rfl rfl ?_
  refine aw_getIv fl_RX12_52 rfl (x := gI σ 13 26 0) rfl d_X12_place_6 ?_
  exact aw_ret d_X12_place_9 rfl rfl h
set_option maxRecDepth 20000 in
theorem vc_X12_doesFit {G : GG} {l : Launch} {d : Nat} {post : Option AVal → AS → Prop} {σ : AS} {kk nn : Nat} {a1 : Int32} {a2 : Int32} (hS : St σ) (h : (vp_in a2 6 ∧ (AMet G l M_X12_starts d 0 0 [xR (some (13, 0)), xR (some (22, 1)), xI (gI σ 13 31 0), xI (gA (sI (sI (sI σ 13 24 0 0) 13 27 0 0) 13 28 0 a1) 26 14 a2.toNatClampNeg)] (sI (sI (sI σ 13 24 0 0) 13 27 0 0) 13 28 0 a1) (retV (fun σ1 => AMet G l M_X12_either d 0 0 [xR (some (13, 0)), xI 0] σ1 (retI (fun x3 σ2 => (narrow .boolean (.int x3) = .int x3 ∧ post (some (xI x3)) σ2)))))))) : AW G l M_X12_doesFit (d + 1) post σ kk nn 0 [some (xR (some (13, 0))), some (xI a1), some (xI a2)] [] := by
  refine aw_aload_n (i := 0) d_X12_doesFit_0 rfl rfl ?_
  refine aw_iconst (x := 0) d_X12_doesFit_1 (by decide) ?_
  refine aw_putI fl_RX12_221 (by decide) (fin_no (r := (RX12, TX12, 68)) rfl rfl) d_X12_doesFit_2 rfl ⟨rfl, rfl⟩ ?_
  refine aw_aload_n (i := 0) d_X12_doesFit_5 rfl rfl ?_
  refine aw_iconst (x := 0) d_X12_doesFit_6 (by decide) ?_
  refine aw_putI fl_RX12_263 (by decide) (fin_no (r := (RX12, TX12, 68)) rfl rfl) d_X12_doesFit_7 rfl (by decide) ?_
  refine aw_aload_n (i := 0) d_X12_doesFit_10 rfl rfl ?_
  refine aw_iload_n (i := 1) d_X12_doesFit_11 rfl rfl ?_
  refine aw_putI fl_RX12_267 (by decide) (fin_no (r := (RX12, TX12, 68)) rfl rfl) d_X12_doesFit_12 rfl ⟨rfl, rfl⟩ ?_
  refine aw_aload_n (i := 0) d_X12_doesFit_15 rfl rfl ?_
  refine aw_aload_n (i := 0) d_X12_doesFit_16 rfl rfl ?_
  refine aw_getRv fl_RX12_55 rfl (r := some (22, 1)) (St.get (St.sI (St.sI (St.sI hS))) 13 30 0 22 1 (by decide)) d_X12_doesFit_17 ?_
  refine aw_aload_n (i := 0) d_X12_doesFit_20 rfl rfl ?_
  refine aw_getIv fl_RX12_295 rfl (x := gI σ 13 31 0) rfl d_X12_doesFit_21 ?_
  refine aw_aload_n (i := 0) d_X12_doesFit_24 rfl rfl ?_
  refine aw_getRv fl_RX12_70 rfl (r := some (26, 14)) (St.get (St.sI (St.sI (St.sI hS))) 13 36 0 26 14 (by decide)) d_X12_doesFit_25 ?_
  refine aw_iload_n (i := 2) d_X12_doesFit_28 rfl rfl ?_
  obtain ⟨hq, h⟩ := h
  refine aw_iald d_X12_doesFit_29 (by decide) (vp_of (St.len (St.sI (St.sI (St.sI hS))) 26 14 6 (by decide)) hq) ?_
  refine aw_callV0 (as := [xR (some (22, 1)), xI (gI σ 13 31 0), xI (gA (sI (sI (sI σ 13 24 0 0) 13 27 0 0) 13 28 0 a1) 26 14 a2.toNatClampNeg)]) mw_X12_starts (by decide +kernel) ml_RX12_288 rfl d_X12_doesFit_30 rfl (Nat.le_of_ble_eq_true rfl) (AMet.mono h (aw_toV (fun σ1 h => ?_)))
  refine aw_aload_n (i := 0) d_X12_doesFit_33 rfl rfl ?_
  refine aw_iconst (x := 0) d_X12_doesFit_34 (by decide) ?_
  refine aw_callV0 (as := [xI 0]) mw_X12_either (by decide +kernel) ml_RX12_250 rfl d_X12_doesFit_35 rfl (Nat.le_of_ble_eq_true rfl) (AMet.mono h (aw_toI (fun x3 σ2 h => ?_)))
  exact aw_ret d_X12_doesFit_38 rfl h.1 h.2
set_option maxRecDepth 20000 in
theorem vc_X12_canBe {G : GG} {l : Launch} {d : Nat} {post : Option AVal → AS → Prop} {σ : AS} {kk nn : Nat} {a1 : Int32} {a2 : Int32} (hS : St σ) (h : (vp_in a1 40 ∧ (((¬ (gA σ 21 0 a1.toNatClampNeg) = 0 → post (some (xI 0)) σ)) ∧ (((gA σ 21 0 a1.toNatClampNeg) = 0 → (vp_in a1 40 ∧ (vp_in a2 6 ∧ (((((1440 * (gI σ 13 2 0)) + (gA σ 26 11 a2.toNatClampNeg)) < (gA σ 26 6 a1.toNatClampNeg) → post (some (xI 0)) σ)) ∧ ((¬ ((1440 * (gI σ 13 2 0)) + (gA σ 26 11 a2.toNatClampNeg)) < (gA σ 26 6 a1.toNatClampNeg) → AMet G l M_X12_doesFit d 0 0 [xR (some (13, 0)), xI a1, xI a2] σ (retI (fun x2 σ1 => (((x2 = 0 → post (some (xI 0)) σ1)) ∧ ((¬ x2 = 0 → post (some (xI 1)) σ1))))))))))))))) : AW G l M_X12_canBe (d + 1) post σ kk nn 0 [some (xR (some (13, 0))), some (xI a1), some (xI a2)] [] := by
  refine aw_aload_n (i := 0) d_X12_canBe_0 rfl rfl ?_
  refine aw_getRv fl_RX12_29 rfl (r := some (21, 0)) (St.get hS 13 8 0 21 0 (by decide)) d_X12_canBe_1 ?_
  refine aw_iload_n (i := 1) d_X12_canBe_4 rfl rfl ?_
  obtain ⟨hq, h⟩ := h
  refine aw_zald d_X12_canBe_5 (vp_of (St.len hS 21 0 40 (by decide)) hq) ?_
  refine aw_if_ne (tgt := 46) d_X12_canBe_6 (by decide) (fun c => ?_) (fun c => ?_)
  · have h := h.1 c
    refine aw_iconst (x := 0) d_X12_canBe_46 (by decide) ?_
    exact aw_ret d_X12_canBe_47 rfl (by decide) h
  · have h := h.2 c
    refine aw_aload_n (i := 0) d_X12_canBe_9 rfl rfl ?_
    refine aw_getRv fl_RX12_36 rfl (r := some (26, 6)) (St.get hS 13 10 0 26 6 (by decide)) d_X12_canBe_10 ?_
    refine aw_iload_n (i := 1) d_X12_canBe_13 rfl rfl ?_
    obtain ⟨hq, h⟩ := h
    refine aw_iald d_X12_canBe_14 (by decide) (vp_of (St.len hS 26 6 40 (by decide)) hq) ?_
    refine aw_sipush (x := 1440) d_X12_canBe_15 (by decide) ?_
    refine aw_aload_n (i := 0) d_X12_canBe_18 rfl rfl ?_
    refine aw_getI fl_RX12_304 rfl d_X12_canBe_19 ?_
    refine aw_imul d_X12_canBe_22 ?_
    refine aw_aload_n (i := 0) d_X12_canBe_23 rfl rfl ?_
    refine aw_getRv fl_RX12_61 rfl (r := some (26, 11)) (St.get hS 13 33 0 26 11 (by decide)) d_X12_canBe_24 ?_
    refine aw_iload_n (i := 2) d_X12_canBe_27 rfl rfl ?_
    obtain ⟨hq, h⟩ := h
    refine aw_iald d_X12_canBe_28 (by decide) (vp_of (St.len hS 26 11 6 (by decide)) hq) ?_
    refine aw_iadd d_X12_canBe_29 ?_
    refine aw_icmp_gt (tgt := 46) d_X12_canBe_30 (by decide) (fun c => ?_) (fun c => ?_)
    · have h := h.1 c
      refine aw_iconst (x := 0) d_X12_canBe_46 (by decide) ?_
      exact aw_ret d_X12_canBe_47 rfl (by decide) h
    · have h := h.2 c
      refine aw_aload_n (i := 0) d_X12_canBe_33 rfl rfl ?_
      refine aw_iload_n (i := 1) d_X12_canBe_34 rfl rfl ?_
      refine aw_iload_n (i := 2) d_X12_canBe_35 rfl rfl ?_
      refine aw_callV0 (as := [xI a1, xI a2]) mw_X12_doesFit (by decide +kernel) ml_RX12_307 rfl d_X12_canBe_36 rfl (Nat.le_of_ble_eq_true rfl) (AMet.mono h (aw_toI (fun x2 σ1 h => ?_)))
      refine aw_if_eq (tgt := 46) d_X12_canBe_39 (by decide) (fun c => ?_) (fun c => ?_)
      · have h := h.1 c
        refine aw_iconst (x := 0) d_X12_canBe_46 (by decide) ?_
        exact aw_ret d_X12_canBe_47 rfl (by decide) h
      · have h := h.2 c
        refine aw_iconst (x := 1) d_X12_canBe_42 (by decide) ?_
        refine aw_goto (tgt := 47) d_X12_canBe_43 (by decide) ?_
        exact aw_ret d_X12_canBe_47 rfl (by decide) h
set_option maxRecDepth 20000 in
theorem vc_X12_isAsk {G : GG} {l : Launch} {d : Nat} {post : Option AVal → AS → Prop} {σ : AS} {kk nn : Nat} {a1 : Int32} (h : (((a1 < 0 → post (some (xI 0)) σ)) ∧ ((¬ a1 < 0 → ((((gI σ 13 29 0) ≤ a1 → post (some (xI 0)) σ)) ∧ ((¬ (gI σ 13 29 0) ≤ a1 → post (some (xI 1)) σ))))))) : AW G l M_X12_isAsk d post σ kk nn 0 [some (xR (some (13, 0))), some (xI a1)] [] := by
  refine aw_iload_n (i := 1) d_X12_isAsk_0 rfl rfl ?_
  refine aw_if_lt (tgt := 16) d_X12_isAsk_1 (by decide) (fun c => ?_) (fun c => ?_)
  · have h := h.1 c
    refine aw_iconst (x := 0) d_X12_isAsk_16 (by decide) ?_
    exact aw_ret d_X12_isAsk_17 rfl (by decide) h
  · have h := h.2 c
    refine aw_iload_n (i := 1) d_X12_isAsk_4 rfl rfl ?_
    refine aw_aload_n (i := 0) d_X12_isAsk_5 rfl rfl ?_
    refine aw_getI fl_RX12_298 rfl d_X12_isAsk_6 ?_
    refine aw_icmp_ge (tgt := 16) d_X12_isAsk_9 (by decide) (fun c => ?_) (fun c => ?_)
    · have h := h.1 c
      refine aw_iconst (x := 0) d_X12_isAsk_16 (by decide) ?_
      exact aw_ret d_X12_isAsk_17 rfl (by decide) h
    · have h := h.2 c
      refine aw_iconst (x := 1) d_X12_isAsk_12 (by decide) ?_
      refine aw_goto (tgt := 17) d_X12_isAsk_13 (by decide) ?_
      exact aw_ret d_X12_isAsk_17 rfl (by decide) h
set_option maxRecDepth 20000 in
theorem vc_X12_fits {G : GG} {l : Launch} {d : Nat} {post : Option AVal → AS → Prop} {σ : AS} {kk nn : Nat} {a1 : Int32} {a2 : Int32} {a3 : Int32} (h : AMet G l M_X12_isPerson d 0 0 [xR (some (13, 0)), xI a1] (sI σ 13 0 0 0) (retI (fun x2 σ1 => (((x2 = 0 → post (some (xI (-1))) σ1)) ∧ ((¬ x2 = 0 → AMet G l M_X12_isAsk d 0 0 [xR (some (13, 0)), xI a2] σ1 (retI (fun x4 σ3 => (((x4 = 0 → post (some (xI (-1))) σ3)) ∧ ((¬ x4 = 0 → AMet G l M_X12_within d 0 0 [xI a3, xI 0, xI 1] σ3 (retI (fun x6 σ5 => (((¬ x6 = 0 → (((¬ a3 = 0 → AMet G l M_X12_canBe d 0 0 [xR (some (13, 0)), xI a1, xI a2] σ5 (retI (fun x8 σ7 => (((x8 = 0 → post (some (xI 0)) σ7)) ∧ ((¬ x8 = 0 → post (some (xI 1)) σ7))))))) ∧ ((a3 = 0 → AMet G l M_X12_doesFit d 0 0 [xR (some (13, 0)), xI a1, xI a2] σ5 (retI (fun x10 σ9 => (((x10 = 0 → post (some (xI 0)) σ9)) ∧ ((¬ x10 = 0 → post (some (xI 1)) σ9)))))))))) ∧ ((x6 = 0 → post (some (xI (-1))) σ5)))))))))))))))) : AW G l M_X12_fits (d + 1) post σ kk nn 0 [some (xR (some (13, 0))), some (xI a1), some (xI a2), some (xI a3)] [] := by
  refine aw_aload_n (i := 0) d_X12_fits_0 rfl rfl ?_
  refine aw_iconst (x := 0) d_X12_fits_1 (by decide) ?_
  refine aw_putI fl_RX12_1 (by decide) (fin_no (r := (RX12, TX12, 68)) rfl rfl) d_X12_fits_2 rfl ⟨rfl, rfl⟩ ?_
  refine aw_aload_n (i := 0) d_X12_fits_5 rfl rfl ?_
  refine aw_iload_n (i := 1) d_X12_fits_6 rfl rfl ?_
  refine aw_callV0 (as := [xI a1]) mw_X12_isPerson (by decide +kernel) ml_RX12_159 rfl d_X12_fits_7 rfl (Nat.le_of_ble_eq_true rfl) (AMet.mono h (aw_toI (fun x2 σ1 h => ?_)))
  refine aw_if_eq (tgt := 30) d_X12_fits_10 (by decide) (fun c => ?_) (fun c => ?_)
  · have h := h.1 c
    refine aw_iconst (x := -1) d_X12_fits_30 (by decide) ?_
    exact aw_ret d_X12_fits_31 rfl rfl h
  · have h := h.2 c
    refine aw_aload_n (i := 0) d_X12_fits_13 rfl rfl ?_
    refine aw_iload_n (i := 2) d_X12_fits_14 rfl rfl ?_
    refine aw_callV0 (as := [xI a2]) mw_X12_isAsk (by decide +kernel) ml_RX12_311 rfl d_X12_fits_15 rfl (Nat.le_of_ble_eq_true rfl) (AMet.mono h (aw_toI (fun x4 σ3 h => ?_)))
    refine aw_if_eq (tgt := 30) d_X12_fits_18 (by decide) (fun c => ?_) (fun c => ?_)
    · have h := h.1 c
      refine aw_iconst (x := -1) d_X12_fits_30 (by decide) ?_
      exact aw_ret d_X12_fits_31 rfl rfl h
    · have h := h.2 c
      refine aw_iload_n (i := 3) d_X12_fits_21 rfl rfl ?_
      refine aw_iconst (x := 0) d_X12_fits_22 (by decide) ?_
      refine aw_iconst (x := 1) d_X12_fits_23 (by decide) ?_
      refine aw_callS0 (as := [xI a3, xI 0, xI 1]) mw_X12_within ml_RX12_154 rfl d_X12_fits_24 rfl (Nat.le_of_ble_eq_true rfl) (AMet.mono h (aw_toI (fun x6 σ5 h => ?_)))
      refine aw_if_ne (tgt := 32) d_X12_fits_27 (by decide) (fun c => ?_) (fun c => ?_)
      · have h := h.1 c
        refine aw_iload_n (i := 3) d_X12_fits_32 rfl rfl ?_
        refine aw_if_ne (tgt := 48) d_X12_fits_33 (by decide) (fun c => ?_) (fun c => ?_)
        · have h := h.1 c
          refine aw_aload_n (i := 0) d_X12_fits_48 rfl rfl ?_
          refine aw_iload_n (i := 1) d_X12_fits_49 rfl rfl ?_
          refine aw_iload_n (i := 2) d_X12_fits_50 rfl rfl ?_
          refine aw_callV0 (as := [xI a1, xI a2]) mw_X12_canBe (by decide +kernel) ml_RX12_314 rfl d_X12_fits_51 rfl (Nat.le_of_ble_eq_true rfl) (AMet.mono h (aw_toI (fun x8 σ7 h => ?_)))
          refine aw_if_eq (tgt := 61) d_X12_fits_54 (by decide) (fun c => ?_) (fun c => ?_)
          · have h := h.1 c
            refine aw_iconst (x := 0) d_X12_fits_61 (by decide) ?_
            exact aw_ret d_X12_fits_62 rfl rfl h
          · have h := h.2 c
            refine aw_iconst (x := 1) d_X12_fits_57 (by decide) ?_
            refine aw_goto (tgt := 62) d_X12_fits_58 (by decide) ?_
            exact aw_ret d_X12_fits_62 rfl rfl h
        · have h := h.2 c
          refine aw_aload_n (i := 0) d_X12_fits_36 rfl rfl ?_
          refine aw_iload_n (i := 1) d_X12_fits_37 rfl rfl ?_
          refine aw_iload_n (i := 2) d_X12_fits_38 rfl rfl ?_
          refine aw_callV0 (as := [xI a1, xI a2]) mw_X12_doesFit (by decide +kernel) ml_RX12_307 rfl d_X12_fits_39 rfl (Nat.le_of_ble_eq_true rfl) (AMet.mono h (aw_toI (fun x10 σ9 h => ?_)))
          refine aw_if_eq (tgt := 61) d_X12_fits_42 (by decide) (fun c => ?_) (fun c => ?_)
          · have h := h.1 c
            refine aw_iconst (x := 0) d_X12_fits_61 (by decide) ?_
            exact aw_ret d_X12_fits_62 rfl rfl h
          · have h := h.2 c
            refine aw_goto (tgt := 57) d_X12_fits_45 (by decide) ?_
            refine aw_iconst (x := 1) d_X12_fits_57 (by decide) ?_
            refine aw_goto (tgt := 62) d_X12_fits_58 (by decide) ?_
            exact aw_ret d_X12_fits_62 rfl rfl h
      · have h := h.2 c
        refine aw_iconst (x := -1) d_X12_fits_30 (by decide) ?_
        exact aw_ret d_X12_fits_31 rfl rfl h
set_option maxRecDepth 20000 in
theorem vc_X12_calledIn {G : GG} {l : Launch} {d : Nat} {post : Option AVal → AS → Prop} {σ : AS} {kk nn : Nat} {a1 : Int32} (h : AW G l M_X12_calledIn d post σ kk nn 4 [some (xR (some (13, 0))), some (xI a1), some (xI 0), some (xI 0)] []) : AW G l M_X12_calledIn d post σ kk nn 0 [some (xR (some (13, 0))), some (xI a1), none, none] [] := by
  refine aw_iconst (x := 0) d_X12_calledIn_0 (by decide) ?_
  refine aw_istore_n (i := 2) d_X12_calledIn_1 rfl (by decide) ?_
  refine aw_iconst (x := 0) d_X12_calledIn_2 (by decide) ?_
  refine aw_istore_n (i := 3) d_X12_calledIn_3 rfl (by decide) ?_
  exact h
set_option maxRecDepth 20000 in
theorem vc_X12_calledIn_4 {G : GG} {l : Launch} {d : Nat} {post : Option AVal → AS → Prop} {σ : AS} {kk nn : Nat} {v1 : Int32} {v2 : Int32} {v3 : Int32} (hS : St σ) (h : ((((gI σ 13 1 0) ≤ v3 → post (some (xI v2)) σ)) ∧ ((¬ (gI σ 13 1 0) ≤ v3 → (vp_in v3 40 ∧ (((¬ (gA σ 26 7 v3.toNatClampNeg) = v1 → AW G l M_X12_calledIn d post σ kk nn 4 [some (xR (some (13, 0))), some (xI v1), some (xI v2), some (xI (v3 + 1))] [])) ∧ (((gA σ 26 7 v3.toNatClampNeg) = v1 → AW G l M_X12_calledIn d post σ kk nn 4 [some (xR (some (13, 0))), some (xI v1), some (xI (v2 + 1)), some (xI (v3 + 1))] [])))))))) : AW G l M_X12_calledIn d post σ kk nn 4 [some (xR (some (13, 0))), some (xI v1), some (xI v2), some (xI v3)] [] := by
  refine aw_iload_n (i := 3) d_X12_calledIn_4 rfl rfl ?_
  refine aw_aload_n (i := 0) d_X12_calledIn_5 rfl rfl ?_
  refine aw_getI fl_RX12_151 rfl d_X12_calledIn_6 ?_
  refine aw_icmp_ge (tgt := 31) d_X12_calledIn_9 (by decide) (fun c => ?_) (fun c => ?_)
  · have h := h.1 c
    refine aw_iload_n (i := 2) d_X12_calledIn_31 rfl rfl ?_
    exact aw_ret d_X12_calledIn_32 rfl rfl h
  · have h := h.2 c
    refine aw_aload_n (i := 0) d_X12_calledIn_12 rfl rfl ?_
    refine aw_getRv fl_RX12_39 rfl (r := some (26, 7)) (St.get hS 13 11 0 26 7 (by decide)) d_X12_calledIn_13 ?_
    refine aw_iload_n (i := 3) d_X12_calledIn_16 rfl rfl ?_
    obtain ⟨hq, h⟩ := h
    refine aw_iald d_X12_calledIn_17 (by decide) (vp_of (St.len hS 26 7 40 (by decide)) hq) ?_
    refine aw_iload_n (i := 1) d_X12_calledIn_18 rfl rfl ?_
    refine aw_icmp_ne (tgt := 25) d_X12_calledIn_19 (by decide) (fun c => ?_) (fun c => ?_)
    · have h := h.1 c
      refine aw_iinc (i := 3) (v := v3 + 1) d_X12_calledIn_25 rfl rfl (by decide) ?_
      refine aw_goto (tgt := 4) d_X12_calledIn_28 (by decide) ?_
      exact h
    · have h := h.2 c
      refine aw_iinc (i := 2) (v := v2 + 1) d_X12_calledIn_22 rfl rfl (by decide) ?_
      refine aw_iinc (i := 3) (v := v3 + 1) d_X12_calledIn_25 rfl rfl (by decide) ?_
      refine aw_goto (tgt := 4) d_X12_calledIn_28 (by decide) ?_
      exact h
set_option maxRecDepth 20000 in
theorem vc_X12_ask {G : GG} {l : Launch} {d : Nat} {post : Option AVal → AS → Prop} {σ : AS} {kk nn : Nat} {a1 : Int32} {a2 : Int32} (h : AMet G l M_X12_isAsk d 0 0 [xR (some (13, 0)), xI a1] (sI σ 13 0 0 0) (retI (fun x2 σ1 => (St σ1 ∧ (((¬ x2 = 0 → (((a2 = 0 → (vp_in a1 6 ∧ post (some (xI (gA σ1 26 10 a1.toNatClampNeg))) σ1))) ∧ ((a2 = 1 → (vp_in a1 6 ∧ post (some (xI (gA σ1 26 11 a1.toNatClampNeg))) σ1))) ∧ ((a2 = 2 → (vp_in a1 6 ∧ post (some (xI (gA σ1 26 12 a1.toNatClampNeg))) σ1))) ∧ ((a2 = 3 → (vp_in a1 6 ∧ post (some (xI (gA σ1 26 13 a1.toNatClampNeg))) σ1))) ∧ ((a2 = 4 → AMet G l M_X12_calledIn d 0 0 [xR (some (13, 0)), xI a1] σ1 (retI (fun x4 σ3 => post (some (xI x4)) σ3)))) ∧ (((a2.toInt < 0 ∨ 4 < a2.toInt) → post (some (xI (-1))) σ1))))) ∧ ((x2 = 0 → post (some (xI (-1))) σ1))))))) : AW G l M_X12_ask (d + 1) post σ kk nn 0 [some (xR (some (13, 0))), some (xI a1), some (xI a2)] [] := by
  refine aw_aload_n (i := 0) d_X12_ask_0 rfl rfl ?_
  refine aw_iconst (x := 0) d_X12_ask_1 (by decide) ?_
  refine aw_putI fl_RX12_1 (by decide) (fin_no (r := (RX12, TX12, 68)) rfl rfl) d_X12_ask_2 rfl ⟨rfl, rfl⟩ ?_
  refine aw_aload_n (i := 0) d_X12_ask_5 rfl rfl ?_
  refine aw_iload_n (i := 1) d_X12_ask_6 rfl rfl ?_
  refine aw_callV0 (as := [xI a1]) mw_X12_isAsk (by decide +kernel) ml_RX12_311 rfl d_X12_ask_7 rfl (Nat.le_of_ble_eq_true rfl) (AMet.mono h (aw_toI (fun x2 σ1 h => ?_)))
  obtain ⟨hS1, h⟩ := h
  refine aw_if_ne (tgt := 15) d_X12_ask_10 (by decide) (fun c => ?_) (fun c => ?_)
  · have h := h.1 c
    refine aw_iload_n (i := 2) d_X12_ask_15 rfl rfl ?_
    by_cases c0 : a2 = 0
    · have c := c0
      have h := h.1 c
      refine aw_sw (k := 0) (off := 36) (tgt := 52) d_X12_ask_16 c (by decide) (by decide) (by decide) (by decide) ?_
      refine aw_aload_n (i := 0) d_X12_ask_52 rfl rfl ?_
      refine aw_getRv fl_RX12_58 rfl (r := some (26, 10)) (St.get hS1 13 32 0 26 10 (by decide)) d_X12_ask_53 ?_
      refine aw_iload_n (i := 1) d_X12_ask_56 rfl rfl ?_
      obtain ⟨hq, h⟩ := h
      refine aw_iald d_X12_ask_57 (by decide) (vp_of (St.len hS1 26 10 6 (by decide)) hq) ?_
      exact aw_ret d_X12_ask_58 rfl rfl h
    by_cases c1 : a2 = 1
    · have c := c1
      have h := h.2.1 c
      refine aw_sw (k := 1) (off := 43) (tgt := 59) d_X12_ask_16 c (by decide) (by decide) (by decide) (by decide) ?_
      refine aw_aload_n (i := 0) d_X12_ask_59 rfl rfl ?_
      refine aw_getRv fl_RX12_61 rfl (r := some (26, 11)) (St.get hS1 13 33 0 26 11 (by decide)) d_X12_ask_60 ?_
      refine aw_iload_n (i := 1) d_X12_ask_63 rfl rfl ?_
      obtain ⟨hq, h⟩ := h
      refine aw_iald d_X12_ask_64 (by decide) (vp_of (St.len hS1 26 11 6 (by decide)) hq) ?_
      exact aw_ret d_X12_ask_65 rfl rfl h
    by_cases c2 : a2 = 2
    · have c := c2
      have h := h.2.2.1 c
      refine aw_sw (k := 2) (off := 50) (tgt := 66) d_X12_ask_16 c (by decide) (by decide) (by decide) (by decide) ?_
      refine aw_aload_n (i := 0) d_X12_ask_66 rfl rfl ?_
      refine aw_getRv fl_RX12_64 rfl (r := some (26, 12)) (St.get hS1 13 34 0 26 12 (by decide)) d_X12_ask_67 ?_
      refine aw_iload_n (i := 1) d_X12_ask_70 rfl rfl ?_
      obtain ⟨hq, h⟩ := h
      refine aw_iald d_X12_ask_71 (by decide) (vp_of (St.len hS1 26 12 6 (by decide)) hq) ?_
      exact aw_ret d_X12_ask_72 rfl rfl h
    by_cases c3 : a2 = 3
    · have c := c3
      have h := h.2.2.2.1 c
      refine aw_sw (k := 3) (off := 57) (tgt := 73) d_X12_ask_16 c (by decide) (by decide) (by decide) (by decide) ?_
      refine aw_aload_n (i := 0) d_X12_ask_73 rfl rfl ?_
      refine aw_getRv fl_RX12_67 rfl (r := some (26, 13)) (St.get hS1 13 35 0 26 13 (by decide)) d_X12_ask_74 ?_
      refine aw_iload_n (i := 1) d_X12_ask_77 rfl rfl ?_
      obtain ⟨hq, h⟩ := h
      refine aw_iald d_X12_ask_78 (by decide) (vp_of (St.len hS1 26 13 6 (by decide)) hq) ?_
      exact aw_ret d_X12_ask_79 rfl rfl h
    by_cases c4 : a2 = 4
    · have c := c4
      have h := h.2.2.2.2.1 c
      refine aw_sw (k := 4) (off := 64) (tgt := 80) d_X12_ask_16 c (by decide) (by decide) (by decide) (by decide) ?_
      refine aw_aload_n (i := 0) d_X12_ask_80 rfl rfl ?_
      refine aw_iload_n (i := 1) d_X12_ask_81 rfl rfl ?_
      refine aw_callV0 (as := [xI a1]) mw_X12_calledIn (by decide +kernel) ml_RX12_317 rfl d_X12_ask_82 rfl (Nat.le_of_ble_eq_true rfl) (AMet.mono h (aw_toI (fun x4 σ3 h => ?_)))
      exact aw_ret d_X12_ask_85 rfl rfl h
    have c : a2.toInt < 0 ∨ 4 < a2.toInt := by
      have q0 : ¬ a2.toInt = 0 := fun e => c0 (i32_eq (e.trans (by decide)))
      have q1 : ¬ a2.toInt = 1 := fun e => c1 (i32_eq (e.trans (by decide)))
      have q2 : ¬ a2.toInt = 2 := fun e => c2 (i32_eq (e.trans (by decide)))
      have q3 : ¬ a2.toInt = 3 := fun e => c3 (i32_eq (e.trans (by decide)))
      have q4 : ¬ a2.toInt = 4 := fun e => c4 (i32_eq (e.trans (by decide)))
      omega
    have h := h.2.2.2.2.2 c
    refine aw_switchOut (tgt := 86) d_X12_ask_16 c (by decide) ?_
    refine aw_iconst (x := -1) d_X12_ask_86 (by decide) ?_
    exact aw_ret d_X12_ask_87 rfl rfl h
  · have h := h.2 c
    refine aw_iconst (x := -1) d_X12_ask_13 (by decide) ?_
    exact aw_ret d_X12_ask_14 rfl rfl h
set_option maxRecDepth 20000 in
theorem vc_X12_isRoom {G : GG} {l : Launch} {d : Nat} {post : Option AVal → AS → Prop} {σ : AS} {kk nn : Nat}  (h : AW G l M_X12_isRoom d post σ kk nn 2 [some (xR (some (13, 0))), some (xI 0), none, none, none] []) : AW G l M_X12_isRoom d post σ kk nn 0 [some (xR (some (13, 0))), none, none, none, none] [] := by
  refine aw_iconst (x := 0) d_X12_isRoom_0 (by decide) ?_
  refine aw_istore_n (i := 1) d_X12_isRoom_1 rfl (by decide) ?_
  exact h
set_option maxRecDepth 20000 in
theorem vc_X12_isRoom_2 {G : GG} {l : Launch} {d : Nat} {post : Option AVal → AS → Prop} {σ : AS} {kk nn : Nat} {v1 : Int32} (h : ((((1 <<< ((gI σ 13 29 0) &&& 31)) ≤ v1 → post (some (xI 1)) σ)) ∧ ((¬ (1 <<< ((gI σ 13 29 0) &&& 31)) ≤ v1 → AW G l M_X12_isRoom d post σ kk nn 16 [some (xR (some (13, 0))), some (xI v1), some (xI 0), some (xI 0), none] [])))) : AW G l M_X12_isRoom d post σ kk nn 2 [some (xR (some (13, 0))), some (xI v1), none, none, none] [] := by
  refine aw_iload_n (i := 1) d_X12_isRoom_2 rfl rfl ?_
  refine aw_iconst (x := 1) d_X12_isRoom_3 (by decide) ?_
  refine aw_aload_n (i := 0) d_X12_isRoom_4 rfl rfl ?_
  refine aw_getI fl_RX12_298 rfl d_X12_isRoom_5 ?_
  refine aw_ishl d_X12_isRoom_8 ?_
  refine aw_icmp_ge (tgt := 108) d_X12_isRoom_9 (by decide) (fun c => ?_) (fun c => ?_)
  · have h := h.1 c
    refine aw_iconst (x := 1) d_X12_isRoom_108 (by decide) ?_
    exact aw_ret d_X12_isRoom_109 rfl (by decide) h
  · have h := h.2 c
    refine aw_iconst (x := 0) d_X12_isRoom_12 (by decide) ?_
    refine aw_istore_n (i := 2) d_X12_isRoom_13 rfl (by decide) ?_
    refine aw_iconst (x := 0) d_X12_isRoom_14 (by decide) ?_
    refine aw_istore_n (i := 3) d_X12_isRoom_15 rfl (by decide) ?_
    exact h
set_option maxRecDepth 20000 in
theorem vc_X12_isRoom_16 {G : GG} {l : Launch} {d : Nat} {post : Option AVal → AS → Prop} {σ : AS} {kk nn : Nat} {v1 : Int32} {v2 : Int32} {v3 : Int32} (hS : St σ) (h : ((((gI σ 13 29 0) ≤ v3 → AW G l M_X12_isRoom d post σ kk nn 53 [some (xR (some (13, 0))), some (xI v1), some (xI v2), some (xI 0), some (xI 0)] [])) ∧ ((¬ (gI σ 13 29 0) ≤ v3 → (((¬ ((v1 >>> (v3 &&& 31)) &&& 1) = 1 → AW G l M_X12_isRoom d post σ kk nn 16 [some (xR (some (13, 0))), some (xI v1), some (xI v2), some (xI (v3 + 1)), none] [])) ∧ ((((v1 >>> (v3 &&& 31)) &&& 1) = 1 → (vp_in v3 6 ∧ AW G l M_X12_isRoom d post σ kk nn 16 [some (xR (some (13, 0))), some (xI v1), some (xI (v2 + (gA σ 26 21 v3.toNatClampNeg))), some (xI (v3 + 1)), none] [])))))))) : AW G l M_X12_isRoom d post σ kk nn 16 [some (xR (some (13, 0))), some (xI v1), some (xI v2), some (xI v3), none] [] := by
  refine aw_iload_n (i := 3) d_X12_isRoom_16 rfl rfl ?_
  refine aw_aload_n (i := 0) d_X12_isRoom_17 rfl rfl ?_
  refine aw_getI fl_RX12_298 rfl d_X12_isRoom_18 ?_
  refine aw_icmp_ge (tgt := 48) d_X12_isRoom_21 (by decide) (fun c => ?_) (fun c => ?_)
  · have h := h.1 c
    refine aw_iconst (x := 0) d_X12_isRoom_48 (by decide) ?_
    refine aw_istore_n (i := 3) d_X12_isRoom_49 rfl (by decide) ?_
    refine aw_iconst (x := 0) d_X12_isRoom_50 (by decide) ?_
    refine aw_istore (i := 4) d_X12_isRoom_51 (by decide) ?_
    exact h
  · have h := h.2 c
    refine aw_iload_n (i := 1) d_X12_isRoom_24 rfl rfl ?_
    refine aw_iload_n (i := 3) d_X12_isRoom_25 rfl rfl ?_
    refine aw_ishr d_X12_isRoom_26 ?_
    refine aw_iconst (x := 1) d_X12_isRoom_27 (by decide) ?_
    refine aw_iand d_X12_isRoom_28 ?_
    refine aw_iconst (x := 1) d_X12_isRoom_29 (by decide) ?_
    refine aw_icmp_ne (tgt := 42) d_X12_isRoom_30 (by decide) (fun c => ?_) (fun c => ?_)
    · have h := h.1 c
      refine aw_iinc (i := 3) (v := v3 + 1) d_X12_isRoom_42 rfl rfl (by decide) ?_
      refine aw_goto (tgt := 16) d_X12_isRoom_45 (by decide) ?_
      exact h
    · have h := h.2 c
      refine aw_iload_n (i := 2) d_X12_isRoom_33 rfl rfl ?_
      refine aw_aload_n (i := 0) d_X12_isRoom_34 rfl rfl ?_
      refine aw_getRv fl_RX12_94 rfl (r := some (26, 21)) (St.get hS 13 45 0 26 21 (by decide)) d_X12_isRoom_35 ?_
      refine aw_iload_n (i := 3) d_X12_isRoom_38 rfl rfl ?_
      obtain ⟨hq, h⟩ := h
      refine aw_iald d_X12_isRoom_39 (by decide) (vp_of (St.len hS 26 21 6 (by decide)) hq) ?_
      refine aw_iadd d_X12_isRoom_40 ?_
      refine aw_istore_n (i := 2) d_X12_isRoom_41 rfl (by decide) ?_
      refine aw_iinc (i := 3) (v := v3 + 1) d_X12_isRoom_42 rfl rfl (by decide) ?_
      refine aw_goto (tgt := 16) d_X12_isRoom_45 (by decide) ?_
      exact h
set_option maxRecDepth 20000 in
theorem vc_X12_isRoom_53 {G : GG} {l : Launch} {d : Nat} {post : Option AVal → AS → Prop} {σ : AS} {kk nn : Nat} {v1 : Int32} {v2 : Int32} {v3 : Int32} {v4 : Int32} (hS : St σ) (h : ((((gI σ 13 1 0) ≤ v4 → (((v3 ≤ v2 → AW G l M_X12_isRoom d post σ kk nn 2 [some (xR (some (13, 0))), some (xI (v1 + 1)), none, none, none] [])) ∧ ((¬ v3 ≤ v2 → post (some (xI 0)) σ))))) ∧ ((¬ (gI σ 13 1 0) ≤ v4 → (vp_in v4 40 ∧ ((((gA σ 21 1 v4.toNatClampNeg) = 0 → AW G l M_X12_isRoom d post σ kk nn 53 [some (xR (some (13, 0))), some (xI v1), some (xI v2), some (xI v3), some (xI (v4 + 1))] [])) ∧ ((¬ (gA σ 21 1 v4.toNatClampNeg) = 0 → (vp_in v4 40 ∧ (((¬ ((gA σ 26 20 v4.toNatClampNeg) &&& (v1 ^^^ (-1))) = 0 → AW G l M_X12_isRoom d post σ kk nn 53 [some (xR (some (13, 0))), some (xI v1), some (xI v2), some (xI v3), some (xI (v4 + 1))] [])) ∧ ((((gA σ 26 20 v4.toNatClampNeg) &&& (v1 ^^^ (-1))) = 0 → AW G l M_X12_isRoom d post σ kk nn 53 [some (xR (some (13, 0))), some (xI v1), some (xI v2), some (xI (v3 + 1)), some (xI (v4 + 1))] [])))))))))))) : AW G l M_X12_isRoom d post σ kk nn 53 [some (xR (some (13, 0))), some (xI v1), some (xI v2), some (xI v3), some (xI v4)] [] := by
  refine aw_iload (i := 4) d_X12_isRoom_53 rfl ?_
  refine aw_aload_n (i := 0) d_X12_isRoom_55 rfl rfl ?_
  refine aw_getI fl_RX12_151 rfl d_X12_isRoom_56 ?_
  refine aw_icmp_ge (tgt := 95) d_X12_isRoom_59 (by decide) (fun c => ?_) (fun c => ?_)
  · have h := h.1 c
    refine aw_iload_n (i := 3) d_X12_isRoom_95 rfl rfl ?_
    refine aw_iload_n (i := 2) d_X12_isRoom_96 rfl rfl ?_
    refine aw_icmp_le (tgt := 102) d_X12_isRoom_97 (by decide) (fun c => ?_) (fun c => ?_)
    · have h := h.1 c
      refine aw_iinc (i := 1) (v := v1 + 1) d_X12_isRoom_102 rfl rfl (by decide) ?_
      refine aw_goto (tgt := 2) d_X12_isRoom_105 (by decide) ?_
      exact AW.weak h (by exact ⟨rfl, ⟨rfl, trivial⟩⟩)
    · have h := h.2 c
      refine aw_iconst (x := 0) d_X12_isRoom_100 (by decide) ?_
      exact aw_ret d_X12_isRoom_101 rfl (by decide) h
  · have h := h.2 c
    refine aw_aload_n (i := 0) d_X12_isRoom_62 rfl rfl ?_
    refine aw_getRv fl_RX12_91 rfl (r := some (21, 1)) (St.get hS 13 44 0 21 1 (by decide)) d_X12_isRoom_63 ?_
    refine aw_iload (i := 4) d_X12_isRoom_66 rfl ?_
    obtain ⟨hq, h⟩ := h
    refine aw_zald d_X12_isRoom_68 (vp_of (St.len hS 21 1 40 (by decide)) hq) ?_
    refine aw_if_eq (tgt := 89) d_X12_isRoom_69 (by decide) (fun c => ?_) (fun c => ?_)
    · have h := h.1 c
      refine aw_iinc (i := 4) (v := v4 + 1) d_X12_isRoom_89 rfl rfl (by decide) ?_
      refine aw_goto (tgt := 53) d_X12_isRoom_92 (by decide) ?_
      exact h
    · have h := h.2 c
      refine aw_aload_n (i := 0) d_X12_isRoom_72 rfl rfl ?_
      refine aw_getRv fl_RX12_88 rfl (r := some (26, 20)) (St.get hS 13 43 0 26 20 (by decide)) d_X12_isRoom_73 ?_
      refine aw_iload (i := 4) d_X12_isRoom_76 rfl ?_
      obtain ⟨hq, h⟩ := h
      refine aw_iald d_X12_isRoom_78 (by decide) (vp_of (St.len hS 26 20 40 (by decide)) hq) ?_
      refine aw_iload_n (i := 1) d_X12_isRoom_79 rfl rfl ?_
      refine aw_iconst (x := -1) d_X12_isRoom_80 (by decide) ?_
      refine aw_ixor d_X12_isRoom_81 ?_
      refine aw_iand d_X12_isRoom_82 ?_
      refine aw_if_ne (tgt := 89) d_X12_isRoom_83 (by decide) (fun c => ?_) (fun c => ?_)
      · have h := h.1 c
        refine aw_iinc (i := 4) (v := v4 + 1) d_X12_isRoom_89 rfl rfl (by decide) ?_
        refine aw_goto (tgt := 53) d_X12_isRoom_92 (by decide) ?_
        exact h
      · have h := h.2 c
        refine aw_iinc (i := 3) (v := v3 + 1) d_X12_isRoom_86 rfl rfl (by decide) ?_
        refine aw_iinc (i := 4) (v := v4 + 1) d_X12_isRoom_89 rfl rfl (by decide) ?_
        refine aw_goto (tgt := 53) d_X12_isRoom_92 (by decide) ?_
        exact h
set_option maxRecDepth 20000 in
theorem vc_X12_first {G : GG} {l : Launch} {d : Nat} {post : Option AVal → AS → Prop} {σ : AS} {kk nn : Nat}  (h : AW G l M_X12_first d post σ kk nn 4 [some (xR (some (13, 0))), some (xI (-1)), some (xI 0)] []) : AW G l M_X12_first d post σ kk nn 0 [some (xR (some (13, 0))), none, none] [] := by
  refine aw_iconst (x := -1) d_X12_first_0 (by decide) ?_
  refine aw_istore_n (i := 1) d_X12_first_1 rfl (by decide) ?_
  refine aw_iconst (x := 0) d_X12_first_2 (by decide) ?_
  refine aw_istore_n (i := 2) d_X12_first_3 rfl (by decide) ?_
  exact h
set_option maxRecDepth 20000 in
theorem vc_X12_first_4 {G : GG} {l : Launch} {d : Nat} {post : Option AVal → AS → Prop} {σ : AS} {kk nn : Nat} {v1 : Int32} {v2 : Int32} (hS : St σ) (h : ((((gI σ 13 1 0) ≤ v2 → post (some (xI v1)) σ)) ∧ ((¬ (gI σ 13 1 0) ≤ v2 → (vp_in v2 40 ∧ (((¬ (gA σ 21 2 v2.toNatClampNeg) = 0 → AW G l M_X12_first d post σ kk nn 4 [some (xR (some (13, 0))), some (xI v1), some (xI (v2 + 1))] [])) ∧ (((gA σ 21 2 v2.toNatClampNeg) = 0 → (((v1 = (-1) → AW G l M_X12_first d post σ kk nn 4 [some (xR (some (13, 0))), some (xI v2), some (xI (v2 + 1))] [])) ∧ ((¬ v1 = (-1) → (vp_in v2 40 ∧ (vp_in v1 40 ∧ ((((gA σ 26 5 v1.toNatClampNeg) ≤ (gA σ 26 5 v2.toNatClampNeg) → AW G l M_X12_first d post σ kk nn 4 [some (xR (some (13, 0))), some (xI v1), some (xI (v2 + 1))] [])) ∧ ((¬ (gA σ 26 5 v1.toNatClampNeg) ≤ (gA σ 26 5 v2.toNatClampNeg) → AW G l M_X12_first d post σ kk nn 4 [some (xR (some (13, 0))), some (xI v2), some (xI (v2 + 1))] [])))))))))))))))) : AW G l M_X12_first d post σ kk nn 4 [some (xR (some (13, 0))), some (xI v1), some (xI v2)] [] := by
  refine aw_iload_n (i := 2) d_X12_first_4 rfl rfl ?_
  refine aw_aload_n (i := 0) d_X12_first_5 rfl rfl ?_
  refine aw_getI fl_RX12_151 rfl d_X12_first_6 ?_
  refine aw_icmp_ge (tgt := 49) d_X12_first_9 (by decide) (fun c => ?_) (fun c => ?_)
  · have h := h.1 c
    refine aw_iload_n (i := 1) d_X12_first_49 rfl rfl ?_
    exact aw_ret d_X12_first_50 rfl rfl h
  · have h := h.2 c
    refine aw_aload_n (i := 0) d_X12_first_12 rfl rfl ?_
    refine aw_getRv fl_RX12_97 rfl (r := some (21, 2)) (St.get hS 13 46 0 21 2 (by decide)) d_X12_first_13 ?_
    refine aw_iload_n (i := 2) d_X12_first_16 rfl rfl ?_
    obtain ⟨hq, h⟩ := h
    refine aw_zald d_X12_first_17 (vp_of (St.len hS 21 2 40 (by decide)) hq) ?_
    refine aw_if_ne (tgt := 43) d_X12_first_18 (by decide) (fun c => ?_) (fun c => ?_)
    · have h := h.1 c
      refine aw_iinc (i := 2) (v := v2 + 1) d_X12_first_43 rfl rfl (by decide) ?_
      refine aw_goto (tgt := 4) d_X12_first_46 (by decide) ?_
      exact h
    · have h := h.2 c
      refine aw_iload_n (i := 1) d_X12_first_21 rfl rfl ?_
      refine aw_iconst (x := -1) d_X12_first_22 (by decide) ?_
      refine aw_icmp_eq (tgt := 41) d_X12_first_23 (by decide) (fun c => ?_) (fun c => ?_)
      · have h := h.1 c
        refine aw_iload_n (i := 2) d_X12_first_41 rfl rfl ?_
        refine aw_istore_n (i := 1) d_X12_first_42 rfl (by decide) ?_
        refine aw_iinc (i := 2) (v := v2 + 1) d_X12_first_43 rfl rfl (by decide) ?_
        refine aw_goto (tgt := 4) d_X12_first_46 (by decide) ?_
        exact h
      · have h := h.2 c
        refine aw_aload_n (i := 0) d_X12_first_26 rfl rfl ?_
        refine aw_getRv fl_RX12_33 rfl (r := some (26, 5)) (St.get hS 13 9 0 26 5 (by decide)) d_X12_first_27 ?_
        refine aw_iload_n (i := 2) d_X12_first_30 rfl rfl ?_
        obtain ⟨hq, h⟩ := h
        refine aw_iald d_X12_first_31 (by decide) (vp_of (St.len hS 26 5 40 (by decide)) hq) ?_
        refine aw_aload_n (i := 0) d_X12_first_32 rfl rfl ?_
        refine aw_getRv fl_RX12_33 rfl (r := some (26, 5)) (St.get hS 13 9 0 26 5 (by decide)) d_X12_first_33 ?_
        refine aw_iload_n (i := 1) d_X12_first_36 rfl rfl ?_
        obtain ⟨hq, h⟩ := h
        refine aw_iald d_X12_first_37 (by decide) (vp_of (St.len hS 26 5 40 (by decide)) hq) ?_
        refine aw_icmp_ge (tgt := 43) d_X12_first_38 (by decide) (fun c => ?_) (fun c => ?_)
        · have h := h.1 c
          refine aw_iinc (i := 2) (v := v2 + 1) d_X12_first_43 rfl rfl (by decide) ?_
          refine aw_goto (tgt := 4) d_X12_first_46 (by decide) ?_
          exact h
        · have h := h.2 c
          refine aw_iload_n (i := 2) d_X12_first_41 rfl rfl ?_
          refine aw_istore_n (i := 1) d_X12_first_42 rfl (by decide) ?_
          refine aw_iinc (i := 2) (v := v2 + 1) d_X12_first_43 rfl rfl (by decide) ?_
          refine aw_goto (tgt := 4) d_X12_first_46 (by decide) ?_
          exact h
set_option maxRecDepth 20000 in
theorem vc_X12_reckons {G : GG} {l : Launch} {d : Nat} {post : Option AVal → AS → Prop} {σ : AS} {kk nn : Nat}  (h : AW G l M_X12_reckons (d + 1) post σ kk nn 2 [some (xR (some (13, 0))), some (xI 0), none] []) : AW G l M_X12_reckons (d + 1) post σ kk nn 0 [some (xR (some (13, 0))), none, none] [] := by
  refine aw_iconst (x := 0) d_X12_reckons_0 (by decide) ?_
  refine aw_istore_n (i := 1) d_X12_reckons_1 rfl (by decide) ?_
  exact h
set_option maxRecDepth 20000 in
theorem vc_X12_reckons_2 {G : GG} {l : Launch} {d : Nat} {post : Option AVal → AS → Prop} {σ : AS} {kk nn : Nat} {v1 : Int32} (hS : St σ) (h : ((((gI σ 13 1 0) ≤ v1 → post none σ)) ∧ ((¬ (gI σ 13 1 0) ≤ v1 → (vp_in v1 40 ∧ AW G l M_X12_reckons (d + 1) post (sA σ 26 20 v1.toNatClampNeg 0) kk nn 19 [some (xR (some (13, 0))), some (xI v1), some (xI 0)] []))))) : AW G l M_X12_reckons (d + 1) post σ kk nn 2 [some (xR (some (13, 0))), some (xI v1), none] [] := by
  refine aw_iload_n (i := 1) d_X12_reckons_2 rfl rfl ?_
  refine aw_aload_n (i := 0) d_X12_reckons_3 rfl rfl ?_
  refine aw_getI fl_RX12_151 rfl d_X12_reckons_4 ?_
  refine aw_icmp_ge (tgt := 60) d_X12_reckons_7 (by decide) (fun c => ?_) (fun c => ?_)
  · have h := h.1 c
    exact aw_vret d_X12_reckons_60 rfl h
  · have h := h.2 c
    refine aw_aload_n (i := 0) d_X12_reckons_10 rfl rfl ?_
    refine aw_getRv fl_RX12_88 rfl (r := some (26, 20)) (St.get hS 13 43 0 26 20 (by decide)) d_X12_reckons_11 ?_
    refine aw_iload_n (i := 1) d_X12_reckons_14 rfl rfl ?_
    refine aw_iconst (x := 0) d_X12_reckons_15 (by decide) ?_
    obtain ⟨hq, h⟩ := h
    refine aw_iast d_X12_reckons_16 (by decide) (vp_of (St.len hS 26 20 40 (by decide)) hq) ?_
    refine aw_iconst (x := 0) d_X12_reckons_17 (by decide) ?_
    refine aw_istore_n (i := 2) d_X12_reckons_18 rfl (by decide) ?_
    exact h
set_option maxRecDepth 20000 in
theorem vc_X12_reckons_19 {G : GG} {l : Launch} {d : Nat} {post : Option AVal → AS → Prop} {σ : AS} {kk nn : Nat} {v1 : Int32} {v2 : Int32} (h : ((((gI σ 13 29 0) ≤ v2 → AW G l M_X12_reckons (d + 1) post σ kk nn 2 [some (xR (some (13, 0))), some (xI (v1 + 1)), none] [])) ∧ ((¬ (gI σ 13 29 0) ≤ v2 → AMet G l M_X12_canBe d 0 0 [xR (some (13, 0)), xI v1, xI v2] σ (retI (fun x2 σ1 => (St σ1 ∧ (((x2 = 0 → AW G l M_X12_reckons (d + 1) post σ1 kk nn 19 [some (xR (some (13, 0))), some (xI v1), some (xI (v2 + 1))] [])) ∧ ((¬ x2 = 0 → (vp_in v1 40 ∧ (vp_in v1 40 ∧ AW G l M_X12_reckons (d + 1) post (sA σ1 26 20 v1.toNatClampNeg ((gA σ1 26 20 v1.toNatClampNeg) ||| (1 <<< (v2 &&& 31)))) kk nn 19 [some (xR (some (13, 0))), some (xI v1), some (xI (v2 + 1))] [])))))))))))) : AW G l M_X12_reckons (d + 1) post σ kk nn 19 [some (xR (some (13, 0))), some (xI v1), some (xI v2)] [] := by
  refine aw_iload_n (i := 2) d_X12_reckons_19 rfl rfl ?_
  refine aw_aload_n (i := 0) d_X12_reckons_20 rfl rfl ?_
  refine aw_getI fl_RX12_298 rfl d_X12_reckons_21 ?_
  refine aw_icmp_ge (tgt := 54) d_X12_reckons_24 (by decide) (fun c => ?_) (fun c => ?_)
  · have h := h.1 c
    refine aw_iinc (i := 1) (v := v1 + 1) d_X12_reckons_54 rfl rfl (by decide) ?_
    refine aw_goto (tgt := 2) d_X12_reckons_57 (by decide) ?_
    exact AW.weak h (by exact ⟨rfl, ⟨rfl, trivial⟩⟩)
  · have h := h.2 c
    refine aw_aload_n (i := 0) d_X12_reckons_27 rfl rfl ?_
    refine aw_iload_n (i := 1) d_X12_reckons_28 rfl rfl ?_
    refine aw_iload_n (i := 2) d_X12_reckons_29 rfl rfl ?_
    refine aw_callV0 (as := [xI v1, xI v2]) mw_X12_canBe (by decide +kernel) ml_RX12_314 rfl d_X12_reckons_30 rfl (Nat.le_of_ble_eq_true rfl) (AMet.mono h (aw_toI (fun x2 σ1 h => ?_)))
    obtain ⟨hS1, h⟩ := h
    refine aw_if_eq (tgt := 48) d_X12_reckons_33 (by decide) (fun c => ?_) (fun c => ?_)
    · have h := h.1 c
      refine aw_iinc (i := 2) (v := v2 + 1) d_X12_reckons_48 rfl rfl (by decide) ?_
      refine aw_goto (tgt := 19) d_X12_reckons_51 (by decide) ?_
      exact h
    · have h := h.2 c
      refine aw_aload_n (i := 0) d_X12_reckons_36 rfl rfl ?_
      refine aw_getRv fl_RX12_88 rfl (r := some (26, 20)) (St.get hS1 13 43 0 26 20 (by decide)) d_X12_reckons_37 ?_
      refine aw_iload_n (i := 1) d_X12_reckons_40 rfl rfl ?_
      refine aw_dup2 d_X12_reckons_41 ?_
      obtain ⟨hq, h⟩ := h
      refine aw_iald d_X12_reckons_42 (by decide) (vp_of (St.len hS1 26 20 40 (by decide)) hq) ?_
      refine aw_iconst (x := 1) d_X12_reckons_43 (by decide) ?_
      refine aw_iload_n (i := 2) d_X12_reckons_44 rfl rfl ?_
      refine aw_ishl d_X12_reckons_45 ?_
      refine aw_ior d_X12_reckons_46 ?_
      obtain ⟨hq, h⟩ := h
      refine aw_iast d_X12_reckons_47 (by decide) (vp_of (St.len hS1 26 20 40 (by decide)) hq) ?_
      refine aw_iinc (i := 2) (v := v2 + 1) d_X12_reckons_48 rfl rfl (by decide) ?_
      refine aw_goto (tgt := 19) d_X12_reckons_51 (by decide) ?_
      exact h
set_option maxRecDepth 20000 in
theorem vc_X12_lay {G : GG} {l : Launch} {d : Nat} {post : Option AVal → AS → Prop} {σ : AS} {kk nn : Nat}  (h : (((¬ (gI σ 13 29 0) = 0 → AMet G l M_X12_reckons d 0 0 [xR (some (13, 0))] (sI σ 13 0 0 0) (retV (fun σ1 => AW G l M_X12_lay (d + 1) post σ1 kk nn 20 [some (xR (some (13, 0))), some (xI 0), none, none, none] [])))) ∧ (((gI σ 13 29 0) = 0 → post (some (xI (-1))) (sI σ 13 0 0 0))))) : AW G l M_X12_lay (d + 1) post σ kk nn 0 [some (xR (some (13, 0))), none, none, none, none] [] := by
  refine aw_aload_n (i := 0) d_X12_lay_0 rfl rfl ?_
  refine aw_iconst (x := 0) d_X12_lay_1 (by decide) ?_
  refine aw_putI fl_RX12_1 (by decide) (fin_no (r := (RX12, TX12, 68)) rfl rfl) d_X12_lay_2 rfl ⟨rfl, rfl⟩ ?_
  refine aw_aload_n (i := 0) d_X12_lay_5 rfl rfl ?_
  refine aw_getIv fl_RX12_298 rfl (x := gI σ 13 29 0) rfl d_X12_lay_6 ?_
  refine aw_if_ne (tgt := 14) d_X12_lay_9 (by decide) (fun c => ?_) (fun c => ?_)
  · have h := h.1 c
    refine aw_aload_n (i := 0) d_X12_lay_14 rfl rfl ?_
    refine aw_callV0 (as := []) mw_X12_reckons (by decide +kernel) ml_RX12_320 rfl d_X12_lay_15 rfl (Nat.le_of_ble_eq_true rfl) (AMet.mono h (aw_toV (fun σ1 h => ?_)))
    refine aw_iconst (x := 0) d_X12_lay_18 (by decide) ?_
    refine aw_istore_n (i := 1) d_X12_lay_19 rfl (by decide) ?_
    exact h
  · have h := h.2 c
    refine aw_iconst (x := -1) d_X12_lay_12 (by decide) ?_
    exact aw_ret d_X12_lay_13 rfl rfl h
set_option maxRecDepth 20000 in
theorem vc_X12_lay_20 {G : GG} {l : Launch} {d : Nat} {post : Option AVal → AS → Prop} {σ : AS} {kk nn : Nat} {v1 : Int32} (hS : St σ) (h : ((((gI σ 13 1 0) ≤ v1 → AW G l M_X12_lay (d + 1) post σ kk nn 57 [some (xR (some (13, 0))), some (xI 0), none, none, none] [])) ∧ ((¬ (gI σ 13 1 0) ≤ v1 → (vp_in v1 40 ∧ (vp_in v1 40 ∧ (vp_in v1 40 ∧ AW G l M_X12_lay (d + 1) post (sA (sA (sA σ 21 1 v1.toNatClampNeg (vp_nar .boolean 0)) 21 2 v1.toNatClampNeg (vp_nar .boolean 0)) 26 7 v1.toNatClampNeg (-1)) kk nn 20 [some (xR (some (13, 0))), some (xI (v1 + 1)), none, none, none] []))))))) : AW G l M_X12_lay (d + 1) post σ kk nn 20 [some (xR (some (13, 0))), some (xI v1), none, none, none] [] := by
  refine aw_iload_n (i := 1) d_X12_lay_20 rfl rfl ?_
  refine aw_aload_n (i := 0) d_X12_lay_21 rfl rfl ?_
  refine aw_getI fl_RX12_151 rfl d_X12_lay_22 ?_
  refine aw_icmp_ge (tgt := 55) d_X12_lay_25 (by decide) (fun c => ?_) (fun c => ?_)
  · have h := h.1 c
    refine aw_iconst (x := 0) d_X12_lay_55 (by decide) ?_
    refine aw_istore_n (i := 1) d_X12_lay_56 rfl (by decide) ?_
    exact h
  · have h := h.2 c
    refine aw_aload_n (i := 0) d_X12_lay_28 rfl rfl ?_
    refine aw_getRv fl_RX12_91 rfl (r := some (21, 1)) (St.get hS 13 44 0 21 1 (by decide)) d_X12_lay_29 ?_
    refine aw_iload_n (i := 1) d_X12_lay_32 rfl rfl ?_
    refine aw_iconst (x := 0) d_X12_lay_33 (by decide) ?_
    obtain ⟨hq, h⟩ := h
    refine aw_zast d_X12_lay_34 (vp_of (St.len hS 21 1 40 (by decide)) hq) ?_
    refine aw_aload_n (i := 0) d_X12_lay_35 rfl rfl ?_
    refine aw_getRv fl_RX12_97 rfl (r := some (21, 2)) (St.get (St.sA hS) 13 46 0 21 2 (by decide)) d_X12_lay_36 ?_
    refine aw_iload_n (i := 1) d_X12_lay_39 rfl rfl ?_
    refine aw_iconst (x := 0) d_X12_lay_40 (by decide) ?_
    obtain ⟨hq, h⟩ := h
    refine aw_zast d_X12_lay_41 (vp_of (St.len (St.sA hS) 21 2 40 (by decide)) hq) ?_
    refine aw_aload_n (i := 0) d_X12_lay_42 rfl rfl ?_
    refine aw_getRv fl_RX12_39 rfl (r := some (26, 7)) (St.get (St.sA (St.sA hS)) 13 11 0 26 7 (by decide)) d_X12_lay_43 ?_
    refine aw_iload_n (i := 1) d_X12_lay_46 rfl rfl ?_
    refine aw_iconst (x := -1) d_X12_lay_47 (by decide) ?_
    obtain ⟨hq, h⟩ := h
    refine aw_iast d_X12_lay_48 (by decide) (vp_of (St.len (St.sA (St.sA hS)) 26 7 40 (by decide)) hq) ?_
    refine aw_iinc (i := 1) (v := v1 + 1) d_X12_lay_49 rfl rfl (by decide) ?_
    refine aw_goto (tgt := 20) d_X12_lay_52 (by decide) ?_
    exact h
set_option maxRecDepth 20000 in
theorem vc_X12_lay_57 {G : GG} {l : Launch} {d : Nat} {post : Option AVal → AS → Prop} {σ : AS} {kk nn : Nat} {v1 : Int32} (hS : St σ) (h : ((((gI σ 13 29 0) ≤ v1 → AW G l M_X12_lay (d + 1) post σ kk nn 87 [some (xR (some (13, 0))), some (xI 0), some (xI 0), none, none] [])) ∧ ((¬ (gI σ 13 29 0) ≤ v1 → (vp_in v1 6 ∧ (vp_in v1 6 ∧ AW G l M_X12_lay (d + 1) post (sA σ 26 21 v1.toNatClampNeg (gA σ 26 13 v1.toNatClampNeg)) kk nn 57 [some (xR (some (13, 0))), some (xI (v1 + 1)), none, none, none] [])))))) : AW G l M_X12_lay (d + 1) post σ kk nn 57 [some (xR (some (13, 0))), some (xI v1), none, none, none] [] := by
  refine aw_iload_n (i := 1) d_X12_lay_57 rfl rfl ?_
  refine aw_aload_n (i := 0) d_X12_lay_58 rfl rfl ?_
  refine aw_getI fl_RX12_298 rfl d_X12_lay_59 ?_
  refine aw_icmp_ge (tgt := 83) d_X12_lay_62 (by decide) (fun c => ?_) (fun c => ?_)
  · have h := h.1 c
    refine aw_iconst (x := 0) d_X12_lay_83 (by decide) ?_
    refine aw_istore_n (i := 1) d_X12_lay_84 rfl (by decide) ?_
    refine aw_iconst (x := 0) d_X12_lay_85 (by decide) ?_
    refine aw_istore_n (i := 2) d_X12_lay_86 rfl (by decide) ?_
    exact h
  · have h := h.2 c
    refine aw_aload_n (i := 0) d_X12_lay_65 rfl rfl ?_
    refine aw_getRv fl_RX12_94 rfl (r := some (26, 21)) (St.get hS 13 45 0 26 21 (by decide)) d_X12_lay_66 ?_
    refine aw_iload_n (i := 1) d_X12_lay_69 rfl rfl ?_
    refine aw_aload_n (i := 0) d_X12_lay_70 rfl rfl ?_
    refine aw_getRv fl_RX12_67 rfl (r := some (26, 13)) (St.get hS 13 35 0 26 13 (by decide)) d_X12_lay_71 ?_
    refine aw_iload_n (i := 1) d_X12_lay_74 rfl rfl ?_
    obtain ⟨hq, h⟩ := h
    refine aw_iald d_X12_lay_75 (by decide) (vp_of (St.len hS 26 13 6 (by decide)) hq) ?_
    obtain ⟨hq, h⟩ := h
    refine aw_iast d_X12_lay_76 (by decide) (vp_of (St.len hS 26 21 6 (by decide)) hq) ?_
    refine aw_iinc (i := 1) (v := v1 + 1) d_X12_lay_77 rfl rfl (by decide) ?_
    refine aw_goto (tgt := 57) d_X12_lay_80 (by decide) ?_
    exact h
set_option maxRecDepth 20000 in
theorem vc_X12_lay_87 {G : GG} {l : Launch} {d : Nat} {post : Option AVal → AS → Prop} {σ : AS} {kk nn : Nat} {v1 : Int32} {v2 : Int32} (h : ((((gI σ 13 1 0) ≤ v2 → AW G l M_X12_lay (d + 1) post σ kk nn 144 [some (xR (some (13, 0))), some (xI v1), some (xI 0), none, none] [])) ∧ ((¬ (gI σ 13 1 0) ≤ v2 → AMet G l M_X12_first d 0 0 [xR (some (13, 0))] σ (retI (fun x3 σ2 => (St σ2 ∧ (vp_in x3 40 ∧ (vp_in x3 40 ∧ (AMet G l M_X12_isRoom d 0 0 [xR (some (13, 0))] (sA (sA σ2 21 2 x3.toNatClampNeg (vp_nar .boolean 1)) 21 1 x3.toNatClampNeg (vp_nar .boolean 1)) (retI (fun x5 σ4 => (St σ4 ∧ (vp_in x3 40 ∧ (vp_in x3 40 ∧ ((((gA (sA σ4 21 1 x3.toNatClampNeg (vp_nar .boolean x5)) 21 1 x3.toNatClampNeg) = 0 → AW G l M_X12_lay (d + 1) post (sA σ4 21 1 x3.toNatClampNeg (vp_nar .boolean x5)) kk nn 87 [some (xR (some (13, 0))), some (xI v1), some (xI (v2 + 1)), none, none] [])) ∧ ((¬ (gA (sA σ4 21 1 x3.toNatClampNeg (vp_nar .boolean x5)) 21 1 x3.toNatClampNeg) = 0 → AW G l M_X12_lay (d + 1) post (sA σ4 21 1 x3.toNatClampNeg (vp_nar .boolean x5)) kk nn 87 [some (xR (some (13, 0))), some (xI (v1 + 1)), some (xI (v2 + 1)), none, none] [])))))))))))))))))) : AW G l M_X12_lay (d + 1) post σ kk nn 87 [some (xR (some (13, 0))), some (xI v1), some (xI v2), none, none] [] := by
  refine aw_iload_n (i := 2) d_X12_lay_87 rfl rfl ?_
  refine aw_aload_n (i := 0) d_X12_lay_88 rfl rfl ?_
  refine aw_getI fl_RX12_151 rfl d_X12_lay_89 ?_
  refine aw_icmp_ge (tgt := 142) d_X12_lay_92 (by decide) (fun c => ?_) (fun c => ?_)
  · have h := h.1 c
    refine aw_iconst (x := 0) d_X12_lay_142 (by decide) ?_
    refine aw_istore_n (i := 2) d_X12_lay_143 rfl (by decide) ?_
    exact h
  · have h := h.2 c
    refine aw_aload_n (i := 0) d_X12_lay_95 rfl rfl ?_
    refine aw_callV0 (as := []) mw_X12_first (by decide +kernel) ml_RX12_323 rfl d_X12_lay_96 rfl (Nat.le_of_ble_eq_true rfl) (AMet.mono h (aw_toI (fun x3 σ2 h => ?_)))
    obtain ⟨hS2, h⟩ := h
    refine aw_istore_n (i := 3) d_X12_lay_99 rfl (by decide) ?_
    refine aw_aload_n (i := 0) d_X12_lay_100 rfl rfl ?_
    refine aw_getRv fl_RX12_97 rfl (r := some (21, 2)) (St.get hS2 13 46 0 21 2 (by decide)) d_X12_lay_101 ?_
    refine aw_iload_n (i := 3) d_X12_lay_104 rfl rfl ?_
    refine aw_iconst (x := 1) d_X12_lay_105 (by decide) ?_
    obtain ⟨hq, h⟩ := h
    refine aw_zast d_X12_lay_106 (vp_of (St.len hS2 21 2 40 (by decide)) hq) ?_
    refine aw_aload_n (i := 0) d_X12_lay_107 rfl rfl ?_
    refine aw_getRv fl_RX12_91 rfl (r := some (21, 1)) (St.get (St.sA hS2) 13 44 0 21 1 (by decide)) d_X12_lay_108 ?_
    refine aw_iload_n (i := 3) d_X12_lay_111 rfl rfl ?_
    refine aw_iconst (x := 1) d_X12_lay_112 (by decide) ?_
    obtain ⟨hq, h⟩ := h
    refine aw_zast d_X12_lay_113 (vp_of (St.len (St.sA hS2) 21 1 40 (by decide)) hq) ?_
    refine aw_aload_n (i := 0) d_X12_lay_114 rfl rfl ?_
    refine aw_getRv fl_RX12_91 rfl (r := some (21, 1)) (St.get (St.sA (St.sA hS2)) 13 44 0 21 1 (by decide)) d_X12_lay_115 ?_
    refine aw_iload_n (i := 3) d_X12_lay_118 rfl rfl ?_
    refine aw_aload_n (i := 0) d_X12_lay_119 rfl rfl ?_
    refine aw_callV0 (as := []) mw_X12_isRoom (by decide +kernel) ml_RX12_326 rfl d_X12_lay_120 rfl (Nat.le_of_ble_eq_true rfl) (AMet.mono h (aw_toI (fun x5 σ4 h => ?_)))
    obtain ⟨hS4, h⟩ := h
    obtain ⟨hq, h⟩ := h
    refine aw_zast d_X12_lay_123 (vp_of (St.len hS4 21 1 40 (by decide)) hq) ?_
    refine aw_aload_n (i := 0) d_X12_lay_124 rfl rfl ?_
    refine aw_getRv fl_RX12_91 rfl (r := some (21, 1)) (St.get (St.sA hS4) 13 44 0 21 1 (by decide)) d_X12_lay_125 ?_
    refine aw_iload_n (i := 3) d_X12_lay_128 rfl rfl ?_
    obtain ⟨hq, h⟩ := h
    refine aw_zald d_X12_lay_129 (vp_of (St.len (St.sA hS4) 21 1 40 (by decide)) hq) ?_
    refine aw_if_eq (tgt := 136) d_X12_lay_130 (by decide) (fun c => ?_) (fun c => ?_)
    · have h := h.1 c
      refine aw_iinc (i := 2) (v := v2 + 1) d_X12_lay_136 rfl rfl (by decide) ?_
      refine aw_goto (tgt := 87) d_X12_lay_139 (by decide) ?_
      exact AW.weak h (by exact ⟨rfl, ⟨rfl, ⟨rfl, trivial⟩⟩⟩)
    · have h := h.2 c
      refine aw_iinc (i := 1) (v := v1 + 1) d_X12_lay_133 rfl rfl (by decide) ?_
      refine aw_iinc (i := 2) (v := v2 + 1) d_X12_lay_136 rfl rfl (by decide) ?_
      refine aw_goto (tgt := 87) d_X12_lay_139 (by decide) ?_
      exact AW.weak h (by exact ⟨rfl, ⟨rfl, ⟨rfl, trivial⟩⟩⟩)
set_option maxRecDepth 20000 in
theorem vc_X12_lay_144 {G : GG} {l : Launch} {d : Nat} {post : Option AVal → AS → Prop} {σ : AS} {kk nn : Nat} {v1 : Int32} {v2 : Int32} (hS : St σ) (h : ((((gI σ 13 1 0) ≤ v2 → post (some (xI v1)) σ)) ∧ ((¬ (gI σ 13 1 0) ≤ v2 → (vp_in v2 40 ∧ (((¬ (gA σ 21 1 v2.toNatClampNeg) = 0 → (vp_in v2 40 ∧ AW G l M_X12_lay (d + 1) post (sA σ 21 1 v2.toNatClampNeg (vp_nar .boolean 0)) kk nn 176 [some (xR (some (13, 0))), some (xI v1), some (xI v2), some (xI 0), some (xI 0)] []))) ∧ (((gA σ 21 1 v2.toNatClampNeg) = 0 → AW G l M_X12_lay (d + 1) post σ kk nn 144 [some (xR (some (13, 0))), some (xI v1), some (xI (v2 + 1)), none, none] [])))))))) : AW G l M_X12_lay (d + 1) post σ kk nn 144 [some (xR (some (13, 0))), some (xI v1), some (xI v2), none, none] [] := by
  refine aw_iload_n (i := 2) d_X12_lay_144 rfl rfl ?_
  refine aw_aload_n (i := 0) d_X12_lay_145 rfl rfl ?_
  refine aw_getI fl_RX12_151 rfl d_X12_lay_146 ?_
  refine aw_icmp_ge (tgt := 271) d_X12_lay_149 (by decide) (fun c => ?_) (fun c => ?_)
  · have h := h.1 c
    refine aw_iload_n (i := 1) d_X12_lay_271 rfl rfl ?_
    exact aw_ret d_X12_lay_272 rfl rfl h
  · have h := h.2 c
    refine aw_aload_n (i := 0) d_X12_lay_152 rfl rfl ?_
    refine aw_getRv fl_RX12_91 rfl (r := some (21, 1)) (St.get hS 13 44 0 21 1 (by decide)) d_X12_lay_153 ?_
    refine aw_iload_n (i := 2) d_X12_lay_156 rfl rfl ?_
    obtain ⟨hq, h⟩ := h
    refine aw_zald d_X12_lay_157 (vp_of (St.len hS 21 1 40 (by decide)) hq) ?_
    refine aw_if_ne (tgt := 164) d_X12_lay_158 (by decide) (fun c => ?_) (fun c => ?_)
    · have h := h.1 c
      refine aw_aload_n (i := 0) d_X12_lay_164 rfl rfl ?_
      refine aw_getRv fl_RX12_91 rfl (r := some (21, 1)) (St.get hS 13 44 0 21 1 (by decide)) d_X12_lay_165 ?_
      refine aw_iload_n (i := 2) d_X12_lay_168 rfl rfl ?_
      refine aw_iconst (x := 0) d_X12_lay_169 (by decide) ?_
      obtain ⟨hq, h⟩ := h
      refine aw_zast d_X12_lay_170 (vp_of (St.len hS 21 1 40 (by decide)) hq) ?_
      refine aw_iconst (x := 0) d_X12_lay_171 (by decide) ?_
      refine aw_istore_n (i := 3) d_X12_lay_172 rfl (by decide) ?_
      refine aw_iconst (x := 0) d_X12_lay_173 (by decide) ?_
      refine aw_istore (i := 4) d_X12_lay_174 (by decide) ?_
      exact h
    · have h := h.2 c
      refine aw_goto (tgt := 265) d_X12_lay_161 (by decide) ?_
      refine aw_iinc (i := 2) (v := v2 + 1) d_X12_lay_265 rfl rfl (by decide) ?_
      refine aw_goto (tgt := 144) d_X12_lay_268 (by decide) ?_
      exact h
set_option maxRecDepth 20000 in
theorem vc_X12_lay_176 {G : GG} {l : Launch} {d : Nat} {post : Option AVal → AS → Prop} {σ : AS} {kk nn : Nat} {v1 : Int32} {v2 : Int32} {v3 : Int32} {v4 : Int32} (hS : St σ) (h : (((¬ v4 = 0 → (vp_in v2 40 ∧ AW G l M_X12_lay (d + 1) post (sA σ 26 7 v2.toNatClampNeg v3) kk nn 144 [some (xR (some (13, 0))), some (xI v1), some (xI (v2 + 1)), none, none] []))) ∧ ((v4 = 0 → (vp_in v2 40 ∧ (((¬ (((gA σ 26 20 v2.toNatClampNeg) >>> (v3 &&& 31)) &&& 1) = 1 → AW G l M_X12_lay (d + 1) post σ kk nn 176 [some (xR (some (13, 0))), some (xI v1), some (xI v2), some (xI (v3 + 1)), some (xI 0)] [])) ∧ (((((gA σ 26 20 v2.toNatClampNeg) >>> (v3 &&& 31)) &&& 1) = 1 → (vp_in v3 6 ∧ ((((gA σ 26 21 v3.toNatClampNeg) ≤ 0 → AW G l M_X12_lay (d + 1) post σ kk nn 176 [some (xR (some (13, 0))), some (xI v1), some (xI v2), some (xI (v3 + 1)), some (xI 0)] [])) ∧ ((¬ (gA σ 26 21 v3.toNatClampNeg) ≤ 0 → (vp_in v3 6 ∧ (vp_in v3 6 ∧ (AMet G l M_X12_isRoom d 0 0 [xR (some (13, 0))] (sA σ 26 21 v3.toNatClampNeg ((gA σ 26 21 v3.toNatClampNeg) - 1)) (retI (fun x7 σ6 => (St σ6 ∧ (((¬ x7 = 0 → (((¬ x7 = 0 → AW G l M_X12_lay (d + 1) post σ6 kk nn 176 [some (xR (some (13, 0))), some (xI v1), some (xI v2), some (xI v3), some (xI x7)] [])) ∧ ((x7 = 0 → AW G l M_X12_lay (d + 1) post σ6 kk nn 176 [some (xR (some (13, 0))), some (xI v1), some (xI v2), some (xI (v3 + 1)), some (xI x7)] []))))) ∧ ((x7 = 0 → (vp_in v3 6 ∧ (vp_in v3 6 ∧ (((¬ x7 = 0 → AW G l M_X12_lay (d + 1) post (sA σ6 26 21 v3.toNatClampNeg ((gA σ6 26 21 v3.toNatClampNeg) + 1)) kk nn 176 [some (xR (some (13, 0))), some (xI v1), some (xI v2), some (xI v3), some (xI x7)] [])) ∧ ((x7 = 0 → AW G l M_X12_lay (d + 1) post (sA σ6 26 21 v3.toNatClampNeg ((gA σ6 26 21 v3.toNatClampNeg) + 1)) kk nn 176 [some (xR (some (13, 0))), some (xI v1), some (xI v2), some (xI (v3 + 1)), some (xI x7)] [])))))))))))))))))))))))))) : AW G l M_X12_lay (d + 1) post σ kk nn 176 [some (xR (some (13, 0))), some (xI v1), some (xI v2), some (xI v3), some (xI v4)] [] := by
  refine aw_iload (i := 4) d_X12_lay_176 rfl ?_
  refine aw_if_ne (tgt := 258) d_X12_lay_178 (by decide) (fun c => ?_) (fun c => ?_)
  · have h := h.1 c
    refine aw_aload_n (i := 0) d_X12_lay_258 rfl rfl ?_
    refine aw_getRv fl_RX12_39 rfl (r := some (26, 7)) (St.get hS 13 11 0 26 7 (by decide)) d_X12_lay_259 ?_
    refine aw_iload_n (i := 2) d_X12_lay_262 rfl rfl ?_
    refine aw_iload_n (i := 3) d_X12_lay_263 rfl rfl ?_
    obtain ⟨hq, h⟩ := h
    refine aw_iast d_X12_lay_264 (by decide) (vp_of (St.len hS 26 7 40 (by decide)) hq) ?_
    refine aw_iinc (i := 2) (v := v2 + 1) d_X12_lay_265 rfl rfl (by decide) ?_
    refine aw_goto (tgt := 144) d_X12_lay_268 (by decide) ?_
    exact AW.weak h (by exact ⟨rfl, ⟨rfl, ⟨rfl, trivial⟩⟩⟩)
  · have h := h.2 c
    refine aw_aload_n (i := 0) d_X12_lay_181 rfl rfl ?_
    refine aw_getRv fl_RX12_88 rfl (r := some (26, 20)) (St.get hS 13 43 0 26 20 (by decide)) d_X12_lay_182 ?_
    refine aw_iload_n (i := 2) d_X12_lay_185 rfl rfl ?_
    obtain ⟨hq, h⟩ := h
    refine aw_iald d_X12_lay_186 (by decide) (vp_of (St.len hS 26 20 40 (by decide)) hq) ?_
    refine aw_iload_n (i := 3) d_X12_lay_187 rfl rfl ?_
    refine aw_ishr d_X12_lay_188 ?_
    refine aw_iconst (x := 1) d_X12_lay_189 (by decide) ?_
    refine aw_iand d_X12_lay_190 ?_
    refine aw_iconst (x := 1) d_X12_lay_191 (by decide) ?_
    refine aw_icmp_ne (tgt := 208) d_X12_lay_192 (by decide) (fun c => ?_) (fun c => ?_)
    · have h := h.1 c
      refine aw_iconst (x := 0) d_X12_lay_208 (by decide) ?_
      refine aw_istore (i := 4) d_X12_lay_209 (by decide) ?_
      refine aw_iload (i := 4) d_X12_lay_211 rfl ?_
      refine aw_if_eq (tgt := 247) d_X12_lay_213 (by decide) (fun _ => ?_) (fun c => absurd c (by decide))
      refine aw_iload (i := 4) d_X12_lay_247 rfl ?_
      refine aw_if_ne (tgt := 176) d_X12_lay_249 (by decide) (fun c => absurd c (by decide)) (fun _ => ?_)
      refine aw_iinc (i := 3) (v := v3 + 1) d_X12_lay_252 rfl rfl (by decide) ?_
      refine aw_goto (tgt := 176) d_X12_lay_255 (by decide) ?_
      exact h
    · have h := h.2 c
      refine aw_aload_n (i := 0) d_X12_lay_195 rfl rfl ?_
      refine aw_getRv fl_RX12_94 rfl (r := some (26, 21)) (St.get hS 13 45 0 26 21 (by decide)) d_X12_lay_196 ?_
      refine aw_iload_n (i := 3) d_X12_lay_199 rfl rfl ?_
      obtain ⟨hq, h⟩ := h
      refine aw_iald d_X12_lay_200 (by decide) (vp_of (St.len hS 26 21 6 (by decide)) hq) ?_
      refine aw_if_le (tgt := 208) d_X12_lay_201 (by decide) (fun c => ?_) (fun c => ?_)
      · have h := h.1 c
        refine aw_iconst (x := 0) d_X12_lay_208 (by decide) ?_
        refine aw_istore (i := 4) d_X12_lay_209 (by decide) ?_
        refine aw_iload (i := 4) d_X12_lay_211 rfl ?_
        refine aw_if_eq (tgt := 247) d_X12_lay_213 (by decide) (fun _ => ?_) (fun c => absurd c (by decide))
        refine aw_iload (i := 4) d_X12_lay_247 rfl ?_
        refine aw_if_ne (tgt := 176) d_X12_lay_249 (by decide) (fun c => absurd c (by decide)) (fun _ => ?_)
        refine aw_iinc (i := 3) (v := v3 + 1) d_X12_lay_252 rfl rfl (by decide) ?_
        refine aw_goto (tgt := 176) d_X12_lay_255 (by decide) ?_
        exact h
      · have h := h.2 c
        refine aw_iconst (x := 1) d_X12_lay_204 (by decide) ?_
        refine aw_goto (tgt := 209) d_X12_lay_205 (by decide) ?_
        refine aw_istore (i := 4) d_X12_lay_209 (by decide) ?_
        refine aw_iload (i := 4) d_X12_lay_211 rfl ?_
        refine aw_if_eq (tgt := 247) d_X12_lay_213 (by decide) (fun c => absurd c (by decide)) (fun _ => ?_)
        refine aw_aload_n (i := 0) d_X12_lay_216 rfl rfl ?_
        refine aw_getRv fl_RX12_94 rfl (r := some (26, 21)) (St.get hS 13 45 0 26 21 (by decide)) d_X12_lay_217 ?_
        refine aw_iload_n (i := 3) d_X12_lay_220 rfl rfl ?_
        refine aw_dup2 d_X12_lay_221 ?_
        obtain ⟨hq, h⟩ := h
        refine aw_iald d_X12_lay_222 (by decide) (vp_of (St.len hS 26 21 6 (by decide)) hq) ?_
        refine aw_iconst (x := 1) d_X12_lay_223 (by decide) ?_
        refine aw_isub d_X12_lay_224 ?_
        obtain ⟨hq, h⟩ := h
        refine aw_iast d_X12_lay_225 (by decide) (vp_of (St.len hS 26 21 6 (by decide)) hq) ?_
        refine aw_aload_n (i := 0) d_X12_lay_226 rfl rfl ?_
        refine aw_callV0 (as := []) mw_X12_isRoom (by decide +kernel) ml_RX12_326 rfl d_X12_lay_227 rfl (Nat.le_of_ble_eq_true rfl) (AMet.mono h (aw_toI (fun x7 σ6 h => ?_)))
        obtain ⟨hS6, h⟩ := h
        refine aw_istore (i := 4) d_X12_lay_230 (by decide) ?_
        refine aw_iload (i := 4) d_X12_lay_232 rfl ?_
        refine aw_if_ne (tgt := 247) d_X12_lay_234 (by decide) (fun c => ?_) (fun c => ?_)
        · have h := h.1 c
          refine aw_iload (i := 4) d_X12_lay_247 rfl ?_
          refine aw_if_ne (tgt := 176) d_X12_lay_249 (by decide) (fun c => ?_) (fun c => ?_)
          · have h := h.1 c
            exact h
          · have h := h.2 c
            refine aw_iinc (i := 3) (v := v3 + 1) d_X12_lay_252 rfl rfl (by decide) ?_
            refine aw_goto (tgt := 176) d_X12_lay_255 (by decide) ?_
            exact h
        · have h := h.2 c
          refine aw_aload_n (i := 0) d_X12_lay_237 rfl rfl ?_
          refine aw_getRv fl_RX12_94 rfl (r := some (26, 21)) (St.get hS6 13 45 0 26 21 (by decide)) d_X12_lay_238 ?_
          refine aw_iload_n (i := 3) d_X12_lay_241 rfl rfl ?_
          refine aw_dup2 d_X12_lay_242 ?_
          obtain ⟨hq, h⟩ := h
          refine aw_iald d_X12_lay_243 (by decide) (vp_of (St.len hS6 26 21 6 (by decide)) hq) ?_
          refine aw_iconst (x := 1) d_X12_lay_244 (by decide) ?_
          refine aw_iadd d_X12_lay_245 ?_
          obtain ⟨hq, h⟩ := h
          refine aw_iast d_X12_lay_246 (by decide) (vp_of (St.len hS6 26 21 6 (by decide)) hq) ?_
          refine aw_iload (i := 4) d_X12_lay_247 rfl ?_
          refine aw_if_ne (tgt := 176) d_X12_lay_249 (by decide) (fun c => ?_) (fun c => ?_)
          · have h := h.1 c
            exact h
          · have h := h.2 c
            refine aw_iinc (i := 3) (v := v3 + 1) d_X12_lay_252 rfl rfl (by decide) ?_
            refine aw_goto (tgt := 176) d_X12_lay_255 (by decide) ?_
            exact h
set_option maxRecDepth 20000 in
theorem vc_X12_called {G : GG} {l : Launch} {d : Nat} {post : Option AVal → AS → Prop} {σ : AS} {kk nn : Nat} {a1 : Int32} (h : AMet G l M_X12_isPerson d 0 0 [xR (some (13, 0)), xI a1] (sI σ 13 0 0 0) (retI (fun x2 σ1 => (St σ1 ∧ (((x2 = 0 → post (some (xI (-1))) σ1)) ∧ ((¬ x2 = 0 → (vp_in a1 40 ∧ post (some (xI (gA σ1 26 7 a1.toNatClampNeg))) σ1)))))))) : AW G l M_X12_called (d + 1) post σ kk nn 0 [some (xR (some (13, 0))), some (xI a1)] [] := by
  refine aw_aload_n (i := 0) d_X12_called_0 rfl rfl ?_
  refine aw_iconst (x := 0) d_X12_called_1 (by decide) ?_
  refine aw_putI fl_RX12_1 (by decide) (fin_no (r := (RX12, TX12, 68)) rfl rfl) d_X12_called_2 rfl ⟨rfl, rfl⟩ ?_
  refine aw_aload_n (i := 0) d_X12_called_5 rfl rfl ?_
  refine aw_iload_n (i := 1) d_X12_called_6 rfl rfl ?_
  refine aw_callV0 (as := [xI a1]) mw_X12_isPerson (by decide +kernel) ml_RX12_159 rfl d_X12_called_7 rfl (Nat.le_of_ble_eq_true rfl) (AMet.mono h (aw_toI (fun x2 σ1 h => ?_)))
  obtain ⟨hS1, h⟩ := h
  refine aw_if_eq (tgt := 22) d_X12_called_10 (by decide) (fun c => ?_) (fun c => ?_)
  · have h := h.1 c
    refine aw_iconst (x := -1) d_X12_called_22 (by decide) ?_
    exact aw_ret d_X12_called_23 rfl rfl h
  · have h := h.2 c
    refine aw_aload_n (i := 0) d_X12_called_13 rfl rfl ?_
    refine aw_getRv fl_RX12_39 rfl (r := some (26, 7)) (St.get hS1 13 11 0 26 7 (by decide)) d_X12_called_14 ?_
    refine aw_iload_n (i := 1) d_X12_called_17 rfl rfl ?_
    obtain ⟨hq, h⟩ := h
    refine aw_iald d_X12_called_18 (by decide) (vp_of (St.len hS1 26 7 40 (by decide)) hq) ?_
    refine aw_goto (tgt := 23) d_X12_called_19 (by decide) ?_
    exact aw_ret d_X12_called_23 rfl rfl h
set_option maxRecDepth 20000 in
theorem vc_X12_mends {G : GG} {l : Launch} {d : Nat} {post : Option AVal → AS → Prop} {σ : AS} {kk nn : Nat} {a1 : Int32} {a2 : Int32} {a3 : Int32} {a4 : Int32} (h : AW G l M_X12_mends (d + 1) post σ kk nn 3 [some (xR (some (13, 0))), some (xI a1), some (xI a2), some (xI a3), some (xI a4), some (xI 0), none] []) : AW G l M_X12_mends (d + 1) post σ kk nn 0 [some (xR (some (13, 0))), some (xI a1), some (xI a2), some (xI a3), some (xI a4), none, none] [] := by
  refine aw_iconst (x := 0) d_X12_mends_0 (by decide) ?_
  refine aw_istore (i := 5) d_X12_mends_1 (by decide) ?_
  exact h
set_option maxRecDepth 20000 in
theorem vc_X12_mends_3 {G : GG} {l : Launch} {d : Nat} {post : Option AVal → AS → Prop} {σ : AS} {kk nn : Nat} {v1 : Int32} {v2 : Int32} {v3 : Int32} {v4 : Int32} {v5 : Int32} (hS : St σ) (h : ((((gI σ 13 1 0) ≤ v5 → post (some (xI 0)) σ)) ∧ ((¬ (gI σ 13 1 0) ≤ v5 → (vp_in v5 40 ∧ ((((gA σ 26 7 v5.toNatClampNeg) = v1 → AW G l M_X12_mends (d + 1) post σ kk nn 3 [some (xR (some (13, 0))), some (xI v1), some (xI v2), some (xI v3), some (xI v4), some (xI (v5 + 1)), none] [])) ∧ ((¬ (gA σ 26 7 v5.toNatClampNeg) = v1 → (vp_in v5 40 ∧ (((¬ (((gA σ 26 20 v5.toNatClampNeg) >>> (v1 &&& 31)) &&& 1) = 0 → (vp_in v5 40 ∧ (((¬ (gA σ 26 7 v5.toNatClampNeg) = (-1) → (((¬ v3 = 1 → (vp_in v5 40 ∧ (((¬ ((v4 >>> ((gA σ 26 7 v5.toNatClampNeg) &&& 31)) &&& 1) = 1 → AW G l M_X12_mends (d + 1) post σ kk nn 97 [some (xR (some (13, 0))), some (xI v1), some (xI v2), some (xI v3), some (xI v4), some (xI v5), some (xI 0)] [])) ∧ ((((v4 >>> ((gA σ 26 7 v5.toNatClampNeg) &&& 31)) &&& 1) = 1 → AW G l M_X12_mends (d + 1) post σ kk nn 3 [some (xR (some (13, 0))), some (xI v1), some (xI v2), some (xI v3), some (xI v4), some (xI (v5 + 1)), none] [])))))) ∧ ((v3 = 1 → AW G l M_X12_mends (d + 1) post σ kk nn 3 [some (xR (some (13, 0))), some (xI v1), some (xI v2), some (xI v3), some (xI v4), some (xI (v5 + 1)), none] []))))) ∧ (((gA σ 26 7 v5.toNatClampNeg) = (-1) → (((¬ v3 = 1 → AW G l M_X12_mends (d + 1) post σ kk nn 3 [some (xR (some (13, 0))), some (xI v1), some (xI v2), some (xI v3), some (xI v4), some (xI (v5 + 1)), none] [])) ∧ ((v3 = 1 → AW G l M_X12_mends (d + 1) post σ kk nn 97 [some (xR (some (13, 0))), some (xI v1), some (xI v2), some (xI v3), some (xI v4), some (xI v5), some (xI 1)] []))))))))) ∧ (((((gA σ 26 20 v5.toNatClampNeg) >>> (v1 &&& 31)) &&& 1) = 0 → AW G l M_X12_mends (d + 1) post σ kk nn 3 [some (xR (some (13, 0))), some (xI v1), some (xI v2), some (xI v3), some (xI v4), some (xI (v5 + 1)), none] [])))))))))))) : AW G l M_X12_mends (d + 1) post σ kk nn 3 [some (xR (some (13, 0))), some (xI v1), some (xI v2), some (xI v3), some (xI v4), some (xI v5), none] [] := by
  refine aw_iload (i := 5) d_X12_mends_3 rfl ?_
  refine aw_aload_n (i := 0) d_X12_mends_5 rfl rfl ?_
  refine aw_getI fl_RX12_151 rfl d_X12_mends_6 ?_
  refine aw_icmp_ge (tgt := 150) d_X12_mends_9 (by decide) (fun c => ?_) (fun c => ?_)
  · have h := h.1 c
    refine aw_iconst (x := 0) d_X12_mends_150 (by decide) ?_
    exact aw_ret d_X12_mends_151 rfl (by decide) h
  · have h := h.2 c
    refine aw_aload_n (i := 0) d_X12_mends_12 rfl rfl ?_
    refine aw_getRv fl_RX12_39 rfl (r := some (26, 7)) (St.get hS 13 11 0 26 7 (by decide)) d_X12_mends_13 ?_
    refine aw_iload (i := 5) d_X12_mends_16 rfl ?_
    obtain ⟨hq, h⟩ := h
    refine aw_iald d_X12_mends_18 (by decide) (vp_of (St.len hS 26 7 40 (by decide)) hq) ?_
    refine aw_iload_n (i := 1) d_X12_mends_19 rfl rfl ?_
    refine aw_icmp_eq (tgt := 144) d_X12_mends_20 (by decide) (fun c => ?_) (fun c => ?_)
    · have h := h.1 c
      refine aw_iinc (i := 5) (v := v5 + 1) d_X12_mends_144 rfl rfl (by decide) ?_
      refine aw_goto (tgt := 3) d_X12_mends_147 (by decide) ?_
      exact h
    · have h := h.2 c
      refine aw_aload_n (i := 0) d_X12_mends_23 rfl rfl ?_
      refine aw_getRv fl_RX12_88 rfl (r := some (26, 20)) (St.get hS 13 43 0 26 20 (by decide)) d_X12_mends_24 ?_
      refine aw_iload (i := 5) d_X12_mends_27 rfl ?_
      obtain ⟨hq, h⟩ := h
      refine aw_iald d_X12_mends_29 (by decide) (vp_of (St.len hS 26 20 40 (by decide)) hq) ?_
      refine aw_iload_n (i := 1) d_X12_mends_30 rfl rfl ?_
      refine aw_ishr d_X12_mends_31 ?_
      refine aw_iconst (x := 1) d_X12_mends_32 (by decide) ?_
      refine aw_iand d_X12_mends_33 ?_
      refine aw_if_ne (tgt := 40) d_X12_mends_34 (by decide) (fun c => ?_) (fun c => ?_)
      · have h := h.1 c
        refine aw_aload_n (i := 0) d_X12_mends_40 rfl rfl ?_
        refine aw_getRv fl_RX12_39 rfl (r := some (26, 7)) (St.get hS 13 11 0 26 7 (by decide)) d_X12_mends_41 ?_
        refine aw_iload (i := 5) d_X12_mends_44 rfl ?_
        obtain ⟨hq, h⟩ := h
        refine aw_iald d_X12_mends_46 (by decide) (vp_of (St.len hS 26 7 40 (by decide)) hq) ?_
        refine aw_iconst (x := -1) d_X12_mends_47 (by decide) ?_
        refine aw_icmp_ne (tgt := 55) d_X12_mends_48 (by decide) (fun c => ?_) (fun c => ?_)
        · have h := h.1 c
          refine aw_iconst (x := 0) d_X12_mends_55 (by decide) ?_
          refine aw_istore (i := 6) d_X12_mends_56 (by decide) ?_
          refine aw_iload (i := 6) d_X12_mends_58 rfl ?_
          refine aw_iload_n (i := 3) d_X12_mends_60 rfl rfl ?_
          refine aw_iconst (x := 1) d_X12_mends_61 (by decide) ?_
          refine aw_icmp_ne (tgt := 69) d_X12_mends_62 (by decide) (fun c => ?_) (fun c => ?_)
          · have h := h.1 c
            refine aw_iconst (x := 0) d_X12_mends_69 (by decide) ?_
            refine aw_icmp_ne (tgt := 144) d_X12_mends_70 (by decide) (fun c => absurd c (by decide)) (fun _ => ?_)
            refine aw_iload (i := 6) d_X12_mends_73 rfl ?_
            refine aw_if_ne (tgt := 97) d_X12_mends_75 (by decide) (fun c => absurd c (by decide)) (fun _ => ?_)
            refine aw_iload (i := 4) d_X12_mends_78 rfl ?_
            refine aw_aload_n (i := 0) d_X12_mends_80 rfl rfl ?_
            refine aw_getRv fl_RX12_39 rfl (r := some (26, 7)) (St.get hS 13 11 0 26 7 (by decide)) d_X12_mends_81 ?_
            refine aw_iload (i := 5) d_X12_mends_84 rfl ?_
            obtain ⟨hq, h⟩ := h
            refine aw_iald d_X12_mends_86 (by decide) (vp_of (St.len hS 26 7 40 (by decide)) hq) ?_
            refine aw_ishr d_X12_mends_87 ?_
            refine aw_iconst (x := 1) d_X12_mends_88 (by decide) ?_
            refine aw_iand d_X12_mends_89 ?_
            refine aw_iconst (x := 1) d_X12_mends_90 (by decide) ?_
            refine aw_icmp_ne (tgt := 97) d_X12_mends_91 (by decide) (fun c => ?_) (fun c => ?_)
            · have h := h.1 c
              exact h
            · have h := h.2 c
              refine aw_goto (tgt := 144) d_X12_mends_94 (by decide) ?_
              refine aw_iinc (i := 5) (v := v5 + 1) d_X12_mends_144 rfl rfl (by decide) ?_
              refine aw_goto (tgt := 3) d_X12_mends_147 (by decide) ?_
              exact AW.weak h (by exact ⟨rfl, ⟨rfl, ⟨rfl, ⟨rfl, ⟨rfl, ⟨rfl, trivial⟩⟩⟩⟩⟩⟩)
          · have h := h.2 c
            refine aw_iconst (x := 1) d_X12_mends_65 (by decide) ?_
            refine aw_goto (tgt := 70) d_X12_mends_66 (by decide) ?_
            refine aw_icmp_ne (tgt := 144) d_X12_mends_70 (by decide) (fun _ => ?_) (fun c => absurd c (by decide))
            refine aw_iinc (i := 5) (v := v5 + 1) d_X12_mends_144 rfl rfl (by decide) ?_
            refine aw_goto (tgt := 3) d_X12_mends_147 (by decide) ?_
            exact AW.weak h (by exact ⟨rfl, ⟨rfl, ⟨rfl, ⟨rfl, ⟨rfl, ⟨rfl, trivial⟩⟩⟩⟩⟩⟩)
        · have h := h.2 c
          refine aw_iconst (x := 1) d_X12_mends_51 (by decide) ?_
          refine aw_goto (tgt := 56) d_X12_mends_52 (by decide) ?_
          refine aw_istore (i := 6) d_X12_mends_56 (by decide) ?_
          refine aw_iload (i := 6) d_X12_mends_58 rfl ?_
          refine aw_iload_n (i := 3) d_X12_mends_60 rfl rfl ?_
          refine aw_iconst (x := 1) d_X12_mends_61 (by decide) ?_
          refine aw_icmp_ne (tgt := 69) d_X12_mends_62 (by decide) (fun c => ?_) (fun c => ?_)
          · have h := h.1 c
            refine aw_iconst (x := 0) d_X12_mends_69 (by decide) ?_
            refine aw_icmp_ne (tgt := 144) d_X12_mends_70 (by decide) (fun _ => ?_) (fun c => absurd c (by decide))
            refine aw_iinc (i := 5) (v := v5 + 1) d_X12_mends_144 rfl rfl (by decide) ?_
            refine aw_goto (tgt := 3) d_X12_mends_147 (by decide) ?_
            exact AW.weak h (by exact ⟨rfl, ⟨rfl, ⟨rfl, ⟨rfl, ⟨rfl, ⟨rfl, trivial⟩⟩⟩⟩⟩⟩)
          · have h := h.2 c
            refine aw_iconst (x := 1) d_X12_mends_65 (by decide) ?_
            refine aw_goto (tgt := 70) d_X12_mends_66 (by decide) ?_
            refine aw_icmp_ne (tgt := 144) d_X12_mends_70 (by decide) (fun c => absurd c (by decide)) (fun _ => ?_)
            refine aw_iload (i := 6) d_X12_mends_73 rfl ?_
            refine aw_if_ne (tgt := 97) d_X12_mends_75 (by decide) (fun _ => ?_) (fun c => absurd c (by decide))
            exact h
      · have h := h.2 c
        refine aw_goto (tgt := 144) d_X12_mends_37 (by decide) ?_
        refine aw_iinc (i := 5) (v := v5 + 1) d_X12_mends_144 rfl rfl (by decide) ?_
        refine aw_goto (tgt := 3) d_X12_mends_147 (by decide) ?_
        exact h
set_option maxRecDepth 20000 in
theorem vc_X12_mends_97 {G : GG} {l : Launch} {d : Nat} {post : Option AVal → AS → Prop} {σ : AS} {kk nn : Nat} {v1 : Int32} {v2 : Int32} {v3 : Int32} {v4 : Int32} {v5 : Int32} {v6 : Int32} (hS : St σ) (h : (vp_in v2 40 ∧ (((¬ v6 = 0 → post (some (xI 1)) (sA σ 26 22 v2.toNatClampNeg v5))) ∧ ((v6 = 0 → (vp_in v5 40 ∧ (vp_in v5 40 ∧ (AMet G l M_X12_mends d 0 0 [xR (some (13, 0)), xI (gA (sA σ 26 22 v2.toNatClampNeg v5) 26 7 v5.toNatClampNeg), xI (v2 + 1), xI (v3 - 1), xI (v4 ||| (1 <<< ((gA (sA σ 26 22 v2.toNatClampNeg v5) 26 7 v5.toNatClampNeg) &&& 31)))] (sA σ 26 22 v2.toNatClampNeg v5) (retI (fun x2 σ1 => (((x2 = 0 → AW G l M_X12_mends (d + 1) post σ1 kk nn 3 [some (xR (some (13, 0))), some (xI v1), some (xI v2), some (xI v3), some (xI v4), some (xI (v5 + 1)), none] [])) ∧ ((¬ x2 = 0 → post (some (xI 1)) σ1))))))))))))) : AW G l M_X12_mends (d + 1) post σ kk nn 97 [some (xR (some (13, 0))), some (xI v1), some (xI v2), some (xI v3), some (xI v4), some (xI v5), some (xI v6)] [] := by
  refine aw_aload_n (i := 0) d_X12_mends_97 rfl rfl ?_
  refine aw_getRv fl_RX12_100 rfl (r := some (26, 22)) (St.get hS 13 47 0 26 22 (by decide)) d_X12_mends_98 ?_
  refine aw_iload_n (i := 2) d_X12_mends_101 rfl rfl ?_
  refine aw_iload (i := 5) d_X12_mends_102 rfl ?_
  obtain ⟨hq, h⟩ := h
  refine aw_iast d_X12_mends_104 (by decide) (vp_of (St.len hS 26 22 40 (by decide)) hq) ?_
  refine aw_iload (i := 6) d_X12_mends_105 rfl ?_
  refine aw_if_ne (tgt := 142) d_X12_mends_107 (by decide) (fun c => ?_) (fun c => ?_)
  · have h := h.1 c
    refine aw_iconst (x := 1) d_X12_mends_142 (by decide) ?_
    exact aw_ret d_X12_mends_143 rfl (by decide) h
  · have h := h.2 c
    refine aw_aload_n (i := 0) d_X12_mends_110 rfl rfl ?_
    refine aw_aload_n (i := 0) d_X12_mends_111 rfl rfl ?_
    refine aw_getRv fl_RX12_39 rfl (r := some (26, 7)) (St.get (St.sA hS) 13 11 0 26 7 (by decide)) d_X12_mends_112 ?_
    refine aw_iload (i := 5) d_X12_mends_115 rfl ?_
    obtain ⟨hq, h⟩ := h
    refine aw_iald d_X12_mends_117 (by decide) (vp_of (St.len (St.sA hS) 26 7 40 (by decide)) hq) ?_
    refine aw_iload_n (i := 2) d_X12_mends_118 rfl rfl ?_
    refine aw_iconst (x := 1) d_X12_mends_119 (by decide) ?_
    refine aw_iadd d_X12_mends_120 ?_
    refine aw_iload_n (i := 3) d_X12_mends_121 rfl rfl ?_
    refine aw_iconst (x := 1) d_X12_mends_122 (by decide) ?_
    refine aw_isub d_X12_mends_123 ?_
    refine aw_iload (i := 4) d_X12_mends_124 rfl ?_
    refine aw_iconst (x := 1) d_X12_mends_126 (by decide) ?_
    refine aw_aload_n (i := 0) d_X12_mends_127 rfl rfl ?_
    refine aw_getRv fl_RX12_39 rfl (r := some (26, 7)) (St.get (St.sA hS) 13 11 0 26 7 (by decide)) d_X12_mends_128 ?_
    refine aw_iload (i := 5) d_X12_mends_131 rfl ?_
    obtain ⟨hq, h⟩ := h
    refine aw_iald d_X12_mends_133 (by decide) (vp_of (St.len (St.sA hS) 26 7 40 (by decide)) hq) ?_
    refine aw_ishl d_X12_mends_134 ?_
    refine aw_ior d_X12_mends_135 ?_
    refine aw_callV0 (as := [xI (gA (sA σ 26 22 v2.toNatClampNeg v5) 26 7 v5.toNatClampNeg), xI (v2 + 1), xI (v3 - 1), xI (v4 ||| (1 <<< ((gA (sA σ 26 22 v2.toNatClampNeg v5) 26 7 v5.toNatClampNeg) &&& 31)))]) mw_X12_mends (by decide +kernel) ml_RX12_330 rfl d_X12_mends_136 rfl (Nat.le_of_ble_eq_true rfl) (AMet.mono h (aw_toI (fun x2 σ1 h => ?_)))
    refine aw_if_eq (tgt := 144) d_X12_mends_139 (by decide) (fun c => ?_) (fun c => ?_)
    · have h := h.1 c
      refine aw_iinc (i := 5) (v := v5 + 1) d_X12_mends_144 rfl rfl (by decide) ?_
      refine aw_goto (tgt := 3) d_X12_mends_147 (by decide) ?_
      exact AW.weak h (by exact ⟨rfl, ⟨rfl, ⟨rfl, ⟨rfl, ⟨rfl, ⟨rfl, trivial⟩⟩⟩⟩⟩⟩)
    · have h := h.2 c
      refine aw_iconst (x := 1) d_X12_mends_142 (by decide) ?_
      exact aw_ret d_X12_mends_143 rfl (by decide) h
