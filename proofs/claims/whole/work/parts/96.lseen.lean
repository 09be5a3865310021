/-! The law's own seen, that catches. -/
section LSEEN
variable {G : GG} {l : Launch} {M : Mth} {d : Nat} {post : Option AVal → AS → Prop} {px : AS → Prop} {tb : Code → Prop} {σ : AS} {kk nn pc : Nat} {L : List (Option AVal)} {st : List AVal}
def hhS : List (Nat × Nat × Nat × Nat) := [(0, 12, 15, 13)]
def tbS : Code → Prop := fun c => c.exceptionTable.toList = tableOf hhS
theorem AMetX.mono {mc ms : Nat} {as : List AVal} {post' : Option AVal → AS → Prop} (h : AMetX G l M d mc ms as σ post px) (hp : ∀ v σ', post v σ' → post' v σ') : AMetX G l M d mc ms as σ post' px := fun ad => MetFree.mono (h ad) (fun _ _ h => h) (fun _ _ _ _ _ h => h) (fun _ _ _ _ _ h => by
  rcases h with ⟨⟨v, ad', σ', h1, h2, h3, h4, h5⟩, hL⟩ | h
  · exact Or.inl ⟨⟨v, ad', σ', h1, h2, h3, h4, hp v σ' h5⟩, hL⟩
  · exact Or.inr h)
theorem ls_words : Cond.classLink "ExtrasOfficeLaw" 13 nse ∈ lw_tbl ∧ goodWord (Cond.classLink "ExtrasOfficeLaw" 13 nse) = true ∧ Cond.codeWith yL_seen cL_seen 6 (some .int) hhS ∈ lw_tbl ∧ goodWord (Cond.codeWith yL_seen cL_seen 6 (some .int) hhS) = true ∧ Cond.initialized "ExtrasOfficeLaw" ∈ lw_tbl ∧ goodWord (Cond.initialized "ExtrasOfficeLaw") = true := by decide +kernel
set_option maxHeartbeats 1000000 in
/-- the call that may throw, and the handler's first step -/
theorem ax_callSeen {i mc ms : Nat} {as stk : List AVal} (hn : as.length = 3) (hstk : stk = as.reverse ++ xR (some (12, i)) :: st) (h4 : st.length ≤ 4) (hL5 : lget L 5 = none) (hL4 : ∀ v, lget L 4 = some v → ∀ x, v ≠ xL x)
    (hx : ∀ σ', px σ' → AWX G l M_L_seen (d + 1) post (fun _ => False) tbS σ' kk nn 17 L [])
    (hm : AMetX G l M_X11_seen d mc ms (xR (some (12, i)) :: as) σ (fun v σ' => AWX G l M_L_seen (d + 1) post (fun _ => False) tbS σ' kk nn 10 L (v.toList ++ st)) px) : AWX G l M_L_seen (d + 1) post (fun _ => False) tbS σ (kk + mc) (nn + ms) 7 L stk := by
  intro p e R s m args below meth co Qc ad H ls locs cells slots C hR hL hst hlo hc hs hQ
  subst hstk
  have hts := C.2.2.2.2.2.1
  have K := C.2.2.2.2.2.2.2.2.1
  have hokr : okv σ (xR (some (12, i))) := hst _ (List.mem_append_right _ List.mem_cons_self)
  have hokst : ∀ v ∈ st, okv σ v := fun v hv => hst v (List.mem_append_right _ (List.mem_cons_of_mem _ hv))
  have hoka : ∀ v ∈ xR (some (12, i)) :: as, okv σ v := ok_c hokr (fun v hv => hst v (List.mem_append_left _ (List.mem_reverse.mpr hv)))
  have hfr := C.2.2.2.2.2.2.2.2.2
  have hw := mw_X11_seen
  have hl := ml_RL_7
  have run := vx_runV (p := p) (e := e) (R := R) (s := s) (m := m) (args := args) (below := below) (meth := meth) (c := co) (H := H) (locs := locs) (cells := cells) (slots := slots) (g := F0 m 7 ls ((as.reverse ++ xR (some (12, i)) :: st).map (cv ad))) (Ts := TW) (own := mO M_L_seen) (C := (mY M_X11_seen).cls) (y := mY M_X11_seen) (b := ad 12 i) (As := as.map (cv ad)) (rest := st.map (cv ad)) ⟨C.1, C.2.1, C.2.2.1, C.2.2.2.2.1, hts⟩ (hm ad) (cwV 3 hts (goodIn_cat (tw_GoodIn (fun w h => by
    rcases List.mem_cons.mp h with rfl | h
    · exact hl.1
    · rcases List.mem_cons.mp h with rfl | h
      · exact hl.2.1
      · rcases List.mem_cons.mp h with rfl | h
        · exact hl.2.2
        · rcases List.mem_cons.mp h with rfl | h
          · exact hw.2.1
          · cases h)) (mw_good hw)) rfl rfl rfl ⟨rfl, hw.2.2.2⟩ ⟨hfr.1, by have := hfr.2; have := hw.2.2.1; show 8 + (mL M_X11_seen + 11) + 41 * d ≤ R.locals; omega⟩) ⟨pcOf_blind (as := xR (some (12, i)) :: as), rcv_of hR K (Or.inl (by decide)) (hokr _ rfl), fun U hU hW => ⟨rfl, by rw [hU]; exact hR, hoka, KK.warm hW K⟩⟩ rfl (by rw [List.length_map]; exact hn) hL.1 (by rw [List.map_append, List.map_reverse]; rfl) (lv_room (Nat.le_trans (cat_le ad st) (by omega))) d_L_seen_7 ⟨by omega, by omega⟩
  intro T hT X
  rcases run T hT X with ⟨v, st₀, t, T', Lo, h0, X', hLo, e1, e2, hqa, hgo⟩ | ⟨q, st₀, t, T', Lo, E, ce, h0, X', hLo, e1, e2, hxx, hce, hcv, hcl, st1⟩
  · obtain ⟨v', ad', σ', ev, hR', hE, hok, k⟩ := hqa
    cases Outcome.returned.inj ev
    have h := k p e R s m args below meth co Qc ad' T'.heap ls (locs ++ Lo) (cells + mc) (slots + ms) C (by rw [e1]; exact hR') (hL.ext hE) (fun w hw => by
      rcases List.mem_append.mp hw with h | h
      · exact hok w (Option.mem_toList.mp h)
      · exact ext_okv hE (hokst w h)) (fun q hq => by
      rcases List.mem_append.mp hq with h | h
      · exact hlo q h
      · exact hLo q h) (by omega) (by omega) (hQ.ext hE)
    rw [List.map_append, ext_cvs hE hokst, ← toL_map] at h
    obtain ⟨t2, a1, b1⟩ := h T' rfl X'
    exact ⟨t2, hgo t2 a1, b1⟩
  · obtain ⟨rfl, ad', σ', hR', hE, hp⟩ := hxx
    have lw := ls_words
    have hW : vx_W p l e R s m args below meth co T'.heap (locs ++ Lo) (cells + mc) (slots + ms) (vx_MQ below Qc.1 Qc.2 args s R.cells R.slots (gA0 G)) (F0 m 7 ls (st.map (cv ad))) q := by
      refine vx_catch C.2.2.2.2.1 [] ⟨0, 12, 15, 13⟩ [] hQ.2.2 (fun z hz => nomatch hz) rfl (by decide) (hts _ (tw_of lw.1 lw.2.1)) (va_Nw.use rfl K.2.2.2.2.2.2.2.2.2.1.1) (by rw [e1]; exact hce) hcv hcl ?_
      refine lv_astore C.1 C.2.1 d_L_seen_15 hL.has (by decide) rfl (fun ls2 h2 => ?_)
      refine hx σ' hp p e R s m args below meth co Qc ad' T'.heap ls2 (locs ++ Lo) (cells + mc) (slots + ms) C (by rw [e1]; exact hR') ⟨h2.1, h2.2.1, fun j v hv => ?_⟩ (fun _ h => by cases h) (fun q hq => by
        rcases List.mem_append.mp hq with h | h
        · exact hlo q h
        · exact hLo q h) (by omega) (by omega) (hQ.ext hE)
      have ok := (hL.2.2 j v hv).2
      refine ⟨?_, ext_okv hE ok⟩
      rw [ext_cv hE ok]
      refine h2.2.2 (j, cv ad v) (List.mem_cons_of_mem _ (List.mem_filter.mpr ⟨mem_lpairs hv, ?_⟩))
      have h5 : j ≠ 5 := fun z => by rw [z, hL5] at hv; cases hv
      by_cases h44 : j = 4
      · have hc1 := cv_cat1 (ad := ad) (hL4 v (by rw [← h44]; exact hv))
        simp [h5, hc1]
      · simp [h5, h44]
    obtain ⟨t2, a1, b1⟩ := hW T' rfl X'
    exact ⟨t2, st1.trans a1, b1⟩
set_option maxHeartbeats 1000000 in
theorem AMetW.of {hh : List (Nat × Nat × Nat × Nat)} {mc ms : Nat} {as : List AVal} (hy : plainName (mY M).cls = true) (hl : (largs as).length ≤ mL M) (h : AWX G l M d post (fun _ => False) (fun c => c.exceptionTable.toList = tableOf hh) σ mc ms 0 (lpad (mL M) (largs as)) []) : AMetW G l M hh d mc ms as σ post := by
  intro ad
  refine va_MetW (cc := mC M) (maxL := mL M) (ret := mR M) (hh := hh) hy rfl ?_
  intro p e s m args below meth c s₁ B hml hv
  obtain ⟨rfl, hR, hok, hK⟩ := hv
  have hts : ∀ w ∈ (Cond.codeWith (mY M) (mC M) (mL M) (mR M) hh :: TW), w.before ((as.map (cv ad)).toArray) s = true := atoms_spec B.pre
  have hown : s.vm.findClass (mY M).cls = some m.cls := findClass_of_methodNamed B.named
  have ht : c.exceptionTable.toList = tableOf hh := vx_table (x := mY M) B (hts _ List.mem_cons_self)
  rw [lg_entry_eq]
  have hle := lv_entry (as.map (cv ad)) (n := mL M) (by rw [llen_largs]; exact hl)
  have w := h p e { frames := d, cells := mc, slots := ms, locals := 41 * d } s m _ below meth c (fun _ st o t => ∃ (v : Option AVal) (ad' : Nat → Nat → Nat) (σ' : AS), o = .returned (v.map (cv ad')) ∧ Rep G ad' σ' t.heap ∧ Ext σ ad σ' ad' ∧ (∀ w ∈ v, okv σ' w) ∧ post v σ', fun _ _ _ => False) ad s.heap _ [] 0 0 ⟨B.exec, B.bytes, hml, B.returns, hown, fun w hw => hts w (List.mem_cons_of_mem _ hw), B.notSynchronized, (name_of_methodNamed B.named B.method).1, hK, Nat.le_refl _, Nat.le_refl _⟩ hR ⟨hle.1, hle.2.1, fun i v hi => by
    obtain ⟨a, b⟩ := lget_largs ad as i v (lget_lpad _ _ _ _ hi)
    refine ⟨?_, hok v b⟩
    rw [List.getElem?_toArray, List.getElem?_append_left (List.getElem?_eq_some_iff.mp a).1]
    exact a⟩ (fun _ h => by cases h) (fun _ h => by cases h) (by show 0 + mc ≤ mc; omega) (by show 0 + ms ≤ ms; omega) ⟨fun v ad' σ' t hW hR' hE hok' hp => ⟨v, ad', σ', rfl, hR', hE, hok', hp⟩, fun ad' σ' t hA hR' hE hp => hp, ht⟩
  intro T hT X
  obtain ⟨t, a1, o, b1, b2, b3⟩ := w T hT X
  rcases b3 with ⟨b3, b4⟩ | ⟨q, -, E, ce, Lq, hF, -⟩
  · exact ⟨t, a1, o, b1, b2, b3, b4⟩
  · exact hF.elim
set_option maxHeartbeats 1000000 in
theorem aw_callSW {M' : Mth} {idx n d' mc ms : Nat} {as stk : List AVal} {hh : List (Nat × Nat × Nat × Nat)} (hcw : Cond.codeWith (mY M') (mC M') (mL M') (mR M') hh ∈ TW) (hini : Cond.initialized (mY M').cls ∈ TW) (hmL : mL M' ≤ 22) (hpar : (mY M').cls ≠ "java/lang/invoke/MethodHandle" ∧ (mY M').cls ≠ "java/lang/invoke/VarHandle" ∧ (parseMethodDescriptor (mY M').desc).map (fun d => d.parameters.length) = some n) (hl : Cond.methodLink (mO M) idx (mY M') ∈ TW ∧ Cond.static (mY M') ∈ TW) (hn : as.length = n) (hd : decode (mC M) pc = .ok (.invokestatic idx, 3)) (hstk : stk = as.reverse ++ st) (h4 : st.length ≤ 4)
    (hm : AMetW G l M' hh d' mc ms (as) σ (fun v σ' => AW G l M (d' + 1) post σ' kk nn (pc + 3) L (v.toList ++ st))) : AW G l M (d' + 1) post σ (kk + mc) (nn + ms) pc L stk := by
  intro p e R s m args below meth co Qc ad H ls locs cells slots C hR hL hst hlo hc hs hQ
  subst hstk
  have hts := C.2.2.2.2.2.1
  have K := C.2.2.2.2.2.2.2.2.1
  have hokst : ∀ v ∈ st, okv σ v := fun v hv => hst v (List.mem_append_right _ hv)
  have hoka : ∀ v ∈ as, okv σ v := fun v hv => hst v (List.mem_append_left _ (List.mem_reverse.mpr hv))
  have hfr := C.2.2.2.2.2.2.2.2.2
  have hroom : mL M' + 11 + 8 + 41 * d' ≤ R.locals := by have := hfr.2; omega
  refine aw_goOn (vx_runSW (hh := hh) (Ts := TW) (own := mO M) (y := mY M') (As := as.map (cv ad)) (rest := st.map (cv ad)) ⟨C.1, C.2.1, C.2.2.1, C.2.2.2.2.1, hts⟩ (hm ad) (vx_cwSW n hts (goodIn_cat (tw_GoodIn (fun w h => ?_)) (tw_GoodIn (fun w hw => (List.mem_cons.mp hw).elim (fun e => e ▸ hcw) id))) rfl rfl rfl hpar ⟨hfr.1, by show 8 + (mL M' + 11) + 41 * d' ≤ R.locals; omega⟩) ⟨pcOf_blind (as := as), fun U hU hW => ⟨rfl, by rw [hU]; exact hR, hoka, KK.warm hW K⟩⟩ rfl (by rw [List.length_map]; exact hn) hL.1 (by rw [List.map_append, List.map_reverse]) (lv_room (Nat.le_trans (cat_le ad st) (by omega))) hd ⟨by omega, by omega⟩) C hL hokst hlo hc hs hQ (fun st₀ v t ⟨v', ad', σ', e, h2, h3, h4, h5⟩ => ⟨v', ad', σ', Outcome.returned.inj e, h2, h3, h4, h5⟩)
  rcases List.mem_cons.mp h with rfl | h
  · exact hl.1
  · rcases List.mem_cons.mp h with rfl | h
    · exact hl.2
    · rcases List.mem_cons.mp h with rfl | h
      · exact hini
      · cases h
theorem vc_L_seen {p1 p5 : Nat} {a2 a3 a4 : Int32} (h : AMetX G l M_X11_seen d 1 6 [xR (some (12, p1)), xI a2, xI a3, xI a4] σ (retI (fun x6 σ1 => (vp_in 0 (gN σ1 24 p5) ∧ post (some (xI 0)) (sL σ1 24 p5 (0 : Int32).toNatClampNeg x6.toInt64)))) (fun σ1 => post (some (xI 1)) σ1)) : AWX G l M_L_seen (d + 1) post (fun _ => False) tbS σ (kk + 1) (nn + 6) 0 [some (xR (some (12, p1))), some (xI a2), some (xI a3), some (xI a4), some (xR (some (24, p5))), none] [] := by
  refine ax_aload (i := 4) d_L_seen_0 rfl ?_
  refine ax_iconst (x := 0) d_L_seen_2 (by decide) ?_
  refine ax_aload_n (i := 0) d_L_seen_3 rfl rfl ?_
  refine ax_iload_n (i := 1) d_L_seen_4 rfl rfl ?_
  refine ax_iload_n (i := 2) d_L_seen_5 rfl rfl ?_
  refine ax_iload_n (i := 3) d_L_seen_6 rfl rfl ?_
  refine ax_callSeen (as := [xI a2, xI a3, xI a4]) rfl rfl (Nat.le_of_ble_eq_true rfl) rfl (fun v hv x e => by cases hv; cases e) (fun σ' hp => ?_) (AMetX.mono h (ax_toI (fun x6 σ1 h => ?_)))
  · refine ax_iconst (x := 1) d_L_seen_17 (by decide) ?_
    exact ax_ret d_L_seen_18 rfl rfl hp
  · refine ax_i2l d_L_seen_10 rfl ?_
    obtain ⟨hq, h⟩ := h
    refine ax_last d_L_seen_11 hq ?_
    refine ax_goto (tgt := 19) d_L_seen_12 (by decide) ?_
    refine ax_iconst (x := 0) d_L_seen_19 (by decide) ?_
    exact ax_ret d_L_seen_20 rfl rfl h
end LSEEN
