/-! String: its fields, its bytes, length and charAt -/
theorem sf_9 : Cond.fieldLink RJ0 9 "java/lang/String" "value" "[B" ∈ TW := (tw_k 6 113 (by decide +kernel) (by decide +kernel))
theorem sf_15 : Cond.fieldLink RJ0 15 "java/lang/String" "coder" "B" ∈ TW := (tw_k 6 114 (by decide +kernel) (by decide +kernel))
theorem sf_38 : Cond.fieldLink RJ0 38 "java/lang/String" "COMPACT_STRINGS" "Z" ∈ TW := (tw_k 1 208 (by decide +kernel) (by decide +kernel))
theorem sf_1053 : Cond.fieldLink RJ0 1053 "jdk/internal/util/Preconditions" "SIOOBE_FORMATTER" "Ljava/util/function/BiFunction;" ∈ TW := (tw_k 1 224 (by decide +kernel) (by decide +kernel))
theorem sm_335 : Cond.methodLink RJ0 335 yJ0_coder_7d493 ∈ TW ∧ Cond.instanceMethod yJ0_coder_7d493 ∈ TW ∧ Cond.selects RJ0 yJ0_coder_7d493 yJ0_coder_7d493 ∈ TW := ⟨(tw_k 1 204 (by decide +kernel) (by decide +kernel)), (tw_k 1 205 (by decide +kernel) (by decide +kernel)), (tw_k 1 206 (by decide +kernel) (by decide +kernel))⟩
theorem sm_492 : Cond.methodLink RJ0 492 yJ0_isLatin1_aae02 ∈ TW ∧ Cond.instanceMethod yJ0_isLatin1_aae02 ∈ TW ∧ Cond.selects RJ0 yJ0_isLatin1_aae02 yJ0_isLatin1_aae02 ∈ TW := ⟨(tw_k 1 214 (by decide +kernel) (by decide +kernel)), (tw_k 1 215 (by decide +kernel) (by decide +kernel)), (tw_k 1 216 (by decide +kernel) (by decide +kernel))⟩
theorem sm_495 : Cond.methodLink RJ0 495 yJ1_charAt_3b067 ∈ TW ∧ Cond.static yJ1_charAt_3b067 ∈ TW := ⟨(tw_k 1 218 (by decide +kernel) (by decide +kernel)), (tw_k 1 219 (by decide +kernel) (by decide +kernel))⟩
theorem sm_1059 : Cond.methodLink RJ0 1059 yJ3_checkIndex_8e157 ∈ TW ∧ Cond.static yJ3_checkIndex_8e157 ∈ TW := ⟨(tw_k 1 226 (by decide +kernel) (by decide +kernel)), (tw_k 1 144 (by decide +kernel) (by decide +kernel))⟩
theorem sm_l9 : Cond.methodLink RJ1 9 yJ0_checkIndex_df160 ∈ TW ∧ Cond.static yJ0_checkIndex_df160 ∈ TW := ⟨(tw_k 1 221 (by decide +kernel) (by decide +kernel)), (tw_k 1 222 (by decide +kernel) (by decide +kernel))⟩
section STRROWS
variable {G : GG} {l : Launch} {M : Mth} {d : Nat} {post : Option AVal → AS → Prop} {σ : AS} {kk nn pc : Nat} {L : List (Option AVal)} {st : List AVal}
/-- a constant's bytes -/
def jsN (i : Nat) : Nat := (jsB.getD i []).length
def jsC (i j : Nat) : Int32 := (jsB.getD i []).getD j 0
theorem str_32 {ad : Nat → Nat → Nat} {H : Heap} {s : State} {i : Nat} (hR : Rep G ad σ H) (K : KK G s) (hok : i < cnt σ 32) : i < 21 ∧ ad 32 i = gV G i ∧ va_T .byte (ad 32 i) (jsN i) (fun j => .int (jsC i j)) (gA0 G) s H := by
  obtain ⟨e1, e2⟩ := (hR.2.2.2.1 32 i hok).2.2 (Or.inr (Or.inr (Or.inr (Or.inr rfl))))
  have e2 := e2 (by decide)
  have hi : i < 21 := by rw [← hR.2.2.2.2.2.2.2.2.2.2.2]; exact hok
  obtain ⟨h0, -, -, -, h4⟩ := K.2.2.2.2.1 i hi
  rw [← h0, ← e1] at h4
  exact ⟨hi, e1.trans h0, h4.kept fun a _ h => hR.2.2.2.2.1.2 a (Nat.not_le.mp h)⟩
theorem aw_getSVal {i idx : Nat} (hw : Cond.fieldLink (mO M) idx "java/lang/String" "value" "[B" ∈ TW) (hd : decode (mC M) pc = .ok (.getfield idx, 3)) (k : AW G l M d post σ kk nn (pc + 3) L (xR (some (32, i)) :: st)) : AW G l M d post σ kk nn pc L (xR (some (30, i)) :: st) := by
  intro p e R s m args below meth co Qc ad H ls locs cells slots C hR hL hst hlo hc hs hQ
  have K := C.2.2.2.2.2.2.2.2.1
  have hok : i < cnt σ 30 := ok_hd hst _ rfl
  obtain ⟨hi, h2, -⟩ := str_bytes hR K hok
  have hok2 : i < cnt σ 32 := by rw [hR.2.2.2.2.2.2.2.2.2.2.2]; exact hi
  obtain ⟨-, e3, -⟩ := str_32 hR K hok2
  obtain ⟨cf, kf, fi, f, cell, h1, h2, h3, h4, h5, h6⟩ := h2
  have h := k p e R s m args below meth co Qc ad H ls locs cells slots C hR hL (ok_c (fun n h => by cases h; exact hok2) (ok_tl hst)) hlo hc hs hQ
  refine W.getf (v := .ref (ad 32 i)) C.1 C.2.1 C.2.2.2.2.1 (C.2.2.2.2.2.1 _ hw) h1 h2 h3 h4 (by rw [e3]; exact h5) rfl rfl hd h
theorem aw_sAlen {i : Nat} (hd : decode (mC M) pc = .ok (.arraylength, 1)) (k : AW G l M d post σ kk nn (pc + 1) L (xI (nI (jsN i)) :: st)) : AW G l M d post σ kk nn pc L (xR (some (32, i)) :: st) := by
  intro p e R s m args below meth co Qc ad H ls locs cells slots C hR hL hst hlo hc hs hQ
  obtain ⟨-, -, cell, h1, h2, h3, h4, h5, h6, h7⟩ := str_32 hR C.2.2.2.2.2.2.2.2.1 (ok_hd hst _ rfl)
  exact W.alen (n := nI (jsN i)) C.1 C.2.1 h1 h2 h5 rfl rfl hd (k p e R s m args below meth co Qc ad H ls locs cells slots C hR hL (ok_c ok_t (ok_tl hst)) hlo hc hs hQ)
theorem aw_sBald {i : Nat} {j : Int32} (hd : decode (mC M) pc = .ok (.baload, 1)) (hin : vp_in j (jsN i)) (k : AW G l M d post σ kk nn (pc + 1) L (xI (jsC i j.toNatClampNeg) :: st)) : AW G l M d post σ kk nn pc L (xI j :: xR (some (32, i)) :: st) := by
  intro p e R s m args below meth co Qc ad H ls locs cells slots C hR hL hst hlo hc hs hQ
  obtain ⟨-, -, cell, h1, h2, h3, h4, h5, h6, h7⟩ := str_32 hR C.2.2.2.2.2.2.2.2.1 (ok_hd (ok_tl hst) _ rfl)
  have hlt := vp_in_lt hin
  exact W.bald (v := .int (jsC i j.toNatClampNeg)) C.1 C.2.1 h1 h2 h3 (fun h => h.elim (fun h => hin (Or.inl h)) (fun h => absurd (Nat.lt_of_lt_of_le hlt h4) (Nat.not_lt.mpr h))) (h6 _ hlt) rfl rfl hd (k p e R s m args below meth co Qc ad H ls locs cells slots C hR hL (ok_c ok_t (ok_tl (ok_tl hst))) hlo hc hs hQ)
/-- a contract that leaves its last argument open: null or any address -/
def AMetF (G : GG) (l : Launch) (M : Mth) (d mc ms : Nat) (a b : Int32) (σ : AS) (post : Option AVal → AS → Prop) : Prop :=
  ∀ (ad : Nat → Nat → Nat) (x : Value), (x = .null ∨ ∃ t, x = .ref t) → Met l (mY M) (.code (mY M) (mC M) (mL M) (mR M) :: TW) { frames := d, cells := mc, slots := ms, locals := 41 * d } (fun v U => v = ([Value.int a, Value.int b, x]).toArray ∧ Rep G ad σ U.heap ∧ KK G U) (fun _ st o t => ∃ (v : Option AVal) (ad' : Nat → Nat → Nat) (σ' : AS), o = .returned (v.map (cv ad')) ∧ Rep G ad' σ' t.heap ∧ Ext σ ad σ' ad' ∧ (∀ w ∈ v, okv σ' w) ∧ post v σ') mc ms (gA0 G)
theorem AMetF.of {mc ms : Nat} {a b : Int32} (hy : plainName (mY M).cls = true) (hl : 3 ≤ mL M) (h : AW G l M d post σ mc ms 0 [some (xI a), some (xI b)] []) : AMetF G l M d mc ms a b σ post := by
  intro ad x hx
  refine Met.ofW (cc := mC M) (maxL := mL M) (ret := mR M) hy rfl ?_
  intro p e s m args below meth c s₁ B hml hv
  obtain ⟨rfl, hR, hK⟩ := hv
  have hts : ∀ w ∈ (Cond.code (mY M) (mC M) (mL M) (mR M) :: TW), w.before ([Value.int a, Value.int b, x].toArray) s = true := atoms_spec B.pre
  have hown : s.vm.findClass (mY M).cls = some m.cls := findClass_of_methodNamed B.named
  rw [lg_entry_eq]
  have hsl : lg_sl [Value.int a, Value.int b, x] = [.val (.int a), .val (.int b), .val x] := by rcases hx with rfl | ⟨t, rfl⟩ <;> rfl
  have hle := lv_entry [Value.int a, Value.int b, x] (n := mL M) (by rw [hsl]; exact hl)
  refine h p e _ s m _ below meth c _ ad s.heap _ [] 0 0 ⟨B.exec, B.bytes, hml, B.returns, hown, fun w hw => hts w (List.mem_cons_of_mem _ hw), B.notSynchronized, (name_of_methodNamed B.named B.method).1, hK, Nat.le_refl _, Nat.le_refl _⟩ hR ⟨hle.1, hle.2.1, fun i v hi => ?_⟩ (fun _ h => by cases h) (fun _ h => by cases h) (by show 0 + mc ≤ mc; omega) (by show 0 + ms ≤ ms; omega) (fun v ad' σ' t hW hR' hE hok' hp => ⟨v, ad', σ', rfl, hR', hE, hok', hp⟩)
  rw [hsl]
  rcases i with _ | _ | i
  · cases hi; exact ⟨rfl, trivial⟩
  · cases hi; exact ⟨rfl, trivial⟩
  · cases hi
theorem aw_fmtS {M' : Mth} {idx idx2 d' mc ms : Nat} {a b : Int32} (hf : Cond.fieldLink (mO M) idx "jdk/internal/util/Preconditions" "SIOOBE_FORMATTER" "Ljava/util/function/BiFunction;" ∈ TW) (hw : MW M' 3) (hl : Cond.methodLink (mO M) idx2 (mY M') ∈ TW ∧ Cond.static (mY M') ∈ TW) (hd : decode (mC M) pc = .ok (.getstatic idx, 3)) (hd2 : decode (mC M) (pc + 3) = .ok (.invokestatic idx2, 3)) (h4 : st.length ≤ 4)
    (hm : AMetF G l M' d' mc ms a b σ (fun v σ' => AW G l M (d' + 1) post σ' kk nn (pc + 3 + 3) L (v.toList ++ st))) : AW G l M (d' + 1) post σ (kk + mc) (nn + ms) pc L (xI b :: xI a :: st) := by
  intro p e R s m args below meth co Qc ad H ls locs cells slots C hR hL hst hlo hc hs hQ
  have hts := C.2.2.2.2.2.1
  have K := C.2.2.2.2.2.2.2.2.1
  have hokst : ∀ v ∈ st, okv σ v := ok_tl (ok_tl hst)
  have hfr := C.2.2.2.2.2.2.2.2.2
  have hroom : mL M' + 11 + 8 + 41 * d' ≤ R.locals := by have := hfr.2; have := hw.2.2.1; omega
  have main : ∀ x : Value, (x = .null ∨ ∃ t, x = .ref t) → W p l e R s m args below meth co H locs cells slots (MQ below Qc args s R.cells R.slots (gA0 G)) (F0 m (pc + 3) ls (x :: (xI b :: xI a :: st).map (cv ad))) := by
    intro x hx
    refine aw_goOn (va_runS (Ts := TW) (own := mO M) (y := mY M') (As := [Value.int a, Value.int b, x]) (rest := st.map (cv ad)) ⟨C.1, C.2.1, C.2.2.1, C.2.2.2.2.1, hts⟩ (hm ad x hx) (va_cwS 3 hts (goodIn_cat (tw_GoodIn (fun w h => ?_)) (mw_good hw)) rfl rfl rfl hw.2.2.2 ⟨hfr.1, by show 8 + (mL M' + 11) + 41 * d' ≤ R.locals; omega⟩) ⟨fun a U g mk ⟨h1, h2, h3⟩ => ⟨h1, h2, KK.blind h3⟩, fun U hU hW => ⟨rfl, by rw [hU]; exact hR, KK.warm hW K⟩⟩ rfl rfl hL.1 rfl (lv_room (Nat.le_trans (cat_le ad st) (by omega))) hd2 ⟨by omega, by omega⟩) C hL hokst hlo hc hs hQ (fun st₀ v t ⟨v', ad', σ', e, h2, h3, h4, h5⟩ => ⟨v', ad', σ', Outcome.returned.inj e, h2, h3, h4, h5⟩)
    rcases List.mem_cons.mp h with rfl | h
    · exact hl.1
    · rcases List.mem_cons.mp h with rfl | h
      · exact hl.2
      · rcases List.mem_cons.mp h with rfl | h
        · exact hw.2.1
        · cases h
  rcases K.2.2.2.2.2.2.2.2.1 with h | ⟨t, h⟩
  · obtain ⟨cf, kf, fi, f, a', cell, h1, h2, h3, h4, h5, h6, h7, h8⟩ := h
    exact W.gets (v := .null) C.1 C.2.1 C.2.2.2.2.1 (C.2.2.2.2.2.1 _ hf) h1 h2 h3 h4 (by rw [hR.2.2.2.2.1.2 a' (Nat.not_le.mp h8)]; exact h5) (fun e => by rw [e] at h6; cases h6) h7 rfl hd (main _ (Or.inl rfl))
  · obtain ⟨cf, kf, fi, f, a', cell, h1, h2, h3, h4, h5, h6, h7, h8⟩ := h
    exact W.gets (v := .ref t) C.1 C.2.1 C.2.2.2.2.1 (C.2.2.2.2.2.1 _ hf) h1 h2 h3 h4 (by rw [hR.2.2.2.2.1.2 a' (Nat.not_le.mp h8)]; exact h5) (fun e => by rw [e] at h6; cases h6) h7 rfl hd (main _ (Or.inr ⟨t, rfl⟩))
theorem c_fmt {x y : Int32} (h1 : ¬ x < 0) (h2 : x < y) (h : post (some (xI x)) σ) : AMetF G l M_J3_checkIndex_8e157 d 0 0 x y σ post := AMetF.of rfl (by decide) (by
  refine aw_iload_n (i := 0) d_J3_checkIndex_8e157_0 rfl rfl ?_
  refine aw_if_lt (tgt := 9) d_J3_checkIndex_8e157_1 (by decide) (fun c => absurd c h1) (fun _ => ?_)
  refine aw_iload_n (i := 0) d_J3_checkIndex_8e157_4 rfl rfl ?_
  refine aw_iload_n (i := 1) d_J3_checkIndex_8e157_5 rfl rfl ?_
  refine aw_icmp_lt (tgt := 16) d_J3_checkIndex_8e157_6 (by decide) (fun _ => ?_) (fun c => absurd h2 c)
  refine aw_iload_n (i := 0) d_J3_checkIndex_8e157_16 rfl rfl ?_
  exact aw_ret d_J3_checkIndex_8e157_17 rfl rfl h)
theorem c_sCheck {x y : Int32} (h1 : ¬ x < 0) (h2 : x < y) (h : post none σ) : AMet G l M_J0_checkIndex_df160 (d + 1) 0 0 [xI x, xI y] σ post := AMet.of rfl (Nat.le_of_ble_eq_true rfl) (by
  refine aw_iload_n (i := 0) d_J0_checkIndex_df160_0 rfl rfl ?_
  refine aw_iload_n (i := 1) d_J0_checkIndex_df160_1 rfl rfl ?_
  refine aw_fmtS (M := M_J0_checkIndex_df160) (kk := 0) (nn := 0) (st := []) sf_1053 mw_J3_checkIndex_8e157 sm_1059 d_J0_checkIndex_df160_2 d_J0_checkIndex_df160_5 (by decide) (c_fmt h1 h2 ?_)
  show AW G l _ _ _ _ _ _ _ _ [xI x]
  refine aw_popI d_J0_checkIndex_df160_8 ?_
  exact aw_vret d_J0_checkIndex_df160_9 rfl h)
theorem getD_all {α : Type} {P : α → Prop} {z : α} (hz : P z) : ∀ (l : List α) (_ : ∀ x ∈ l, P x) (i : Nat), P (l.getD i z)
  | [], _, _ => hz
  | a :: l, h, 0 => h a (List.mem_cons_self ..)
  | a :: l, h, i + 1 => getD_all hz l (fun x hx => h x (List.mem_cons_of_mem _ hx)) i
def isB (c : Int32) : Bool := c &&& 255 == c && ((c.toUInt32 % 65536).toInt32 == c && (decide (narrow .char (.int c) = .int c) && decide (0 ≤ c.toInt ∧ c.toInt < 128)))
theorem jsC_B (i j : Nat) : isB (jsC i j) = true := by
  have h : ∀ l ∈ jsB, ∀ c ∈ l, isB c = true := by decide +kernel
  exact getD_all (P := fun c => isB c = true) (by decide +kernel) _ (getD_all (P := fun l => ∀ c ∈ l, isB c = true) (fun c hc => by cases hc) jsB h i) j
theorem jsN_lt (i : Nat) : jsN i < 50 := getD_all (P := fun l : List Int32 => l.length < 50) (by decide) jsB (by decide +kernel) i
theorem c_j1charAt {i j : Nat} (hj : j < jsN i) (h : post (some (xI (jsC i j))) σ) : AMet G l M_J1_charAt_3b067 (d + 2) 0 0 [xR (some (32, i)), xI (nI j)] σ post := AMet.of rfl (Nat.le_of_ble_eq_true rfl) (by
  have hN := jsN_lt i
  have hB := jsC_B i j
  simp only [isB, Bool.and_eq_true, beq_iff_eq, decide_eq_true_eq] at hB
  refine aw_iload_n (i := 1) d_J1_charAt_3b067_0 rfl rfl ?_
  refine aw_aload_n (i := 0) d_J1_charAt_3b067_1 rfl rfl ?_
  refine aw_sAlen d_J1_charAt_3b067_2 ?_
  refine aw_callS0 (as := [xI (nI j), xI (nI (jsN i))]) mw_J0_checkIndex_df160 sm_l9 rfl d_J1_charAt_3b067_3 rfl (Nat.le_of_ble_eq_true rfl) (c_sCheck (nI_pos (by omega)) (nI_lt hj (by omega)) ?_)
  show AW G l _ _ _ _ _ _ _ _ []
  refine aw_aload_n (i := 0) d_J1_charAt_3b067_6 rfl rfl ?_
  refine aw_iload_n (i := 1) d_J1_charAt_3b067_7 rfl rfl ?_
  refine aw_sBald d_J1_charAt_3b067_8 (vp_in_nI hj (by omega)) ?_
  rw [nI_clamp (by omega)]
  refine aw_sipush (x := 255) d_J1_charAt_3b067_9 (by decide) ?_
  refine aw_iand d_J1_charAt_3b067_12 ?_
  rw [hB.1]
  refine aw_i2c (v := jsC i j) d_J1_charAt_3b067_13 hB.2.1 ?_
  exact aw_ret d_J1_charAt_3b067_14 rfl hB.2.2.1 h)
theorem c_latin {i : Nat} (h : post (some (xI 1)) σ) : AMet G l M_J0_isLatin1_aae02 d 0 0 [xR (some (30, i))] σ post := AMet.of rfl (Nat.le_of_ble_eq_true rfl) (by
  refine aw_getsC sf_38 d_J0_isLatin1_aae02_0 ?_
  refine aw_if_eq (tgt := 17) d_J0_isLatin1_aae02_3 (by decide) (fun c => absurd c (by decide)) (fun _ => ?_)
  refine aw_aload_n (i := 0) d_J0_isLatin1_aae02_6 rfl rfl ?_
  refine aw_getCoder sf_15 d_J0_isLatin1_aae02_7 ?_
  refine aw_if_ne (tgt := 17) d_J0_isLatin1_aae02_10 (by decide) (fun c => absurd rfl c) (fun _ => ?_)
  refine aw_iconst (x := 1) d_J0_isLatin1_aae02_13 (by decide) ?_
  refine aw_goto (tgt := 18) d_J0_isLatin1_aae02_14 (by decide) ?_
  exact aw_ret d_J0_isLatin1_aae02_18 rfl (by decide) h)
theorem c_coder {i : Nat} (h : post (some (xI 0)) σ) : AMet G l M_J0_coder_7d493 d 0 0 [xR (some (30, i))] σ post := AMet.of rfl (Nat.le_of_ble_eq_true rfl) (by
  refine aw_getsC sf_38 d_J0_coder_7d493_0 ?_
  refine aw_if_eq (tgt := 13) d_J0_coder_7d493_3 (by decide) (fun c => absurd c (by decide)) (fun _ => ?_)
  refine aw_aload_n (i := 0) d_J0_coder_7d493_6 rfl rfl ?_
  refine aw_getCoder sf_15 d_J0_coder_7d493_7 ?_
  refine aw_goto (tgt := 14) d_J0_coder_7d493_10 (by decide) ?_
  exact aw_ret d_J0_coder_7d493_14 rfl (by decide) h)
theorem c_sLen {i : Nat} (h : post (some (xI (nI (jsN i)))) σ) : AMet G l M_J0_length_8abf5 (d + 1) 0 0 [xR (some (30, i))] σ post := AMet.of rfl (Nat.le_of_ble_eq_true rfl) (by
  refine aw_aload_n (i := 0) d_J0_length_8abf5_0 rfl rfl ?_
  refine aw_getSVal sf_9 d_J0_length_8abf5_1 ?_
  refine aw_sAlen d_J0_length_8abf5_4 ?_
  refine aw_aload_n (i := 0) d_J0_length_8abf5_5 rfl rfl ?_
  refine aw_callV0 (as := []) mw_J0_coder_7d493 (by decide +kernel) sm_335 rfl d_J0_length_8abf5_6 rfl (Nat.le_of_ble_eq_true rfl) (c_coder ?_)
  show AW G l _ _ _ _ _ _ _ _ [xI 0, xI (nI (jsN i))]
  refine aw_ishr d_J0_length_8abf5_9 ?_
  rw [show nI (jsN i) >>> ((0 : Int32) &&& 31) = nI (jsN i) from by
    generalize nI (jsN i) = x
    rw [show ((0 : Int32) &&& 31) = 0 by decide]
    exact Int32.shiftRight_zero]
  exact aw_ret d_J0_length_8abf5_10 rfl rfl h)
theorem c_charAt {i j : Nat} (hj : j < jsN i) (h : post (some (xI (jsC i j))) σ) : AMet G l M_J0_charAt_5068e (d + 3) 0 0 [xR (some (30, i)), xI (nI j)] σ post := AMet.of rfl (Nat.le_of_ble_eq_true rfl) (by
  have hB := jsC_B i j
  simp only [isB, Bool.and_eq_true, beq_iff_eq, decide_eq_true_eq] at hB
  refine aw_aload_n (i := 0) d_J0_charAt_5068e_0 rfl rfl ?_
  refine aw_callV0 (as := []) mw_J0_isLatin1_aae02 (by decide +kernel) sm_492 rfl d_J0_charAt_5068e_1 rfl (Nat.le_of_ble_eq_true rfl) (c_latin ?_)
  show AW G l _ _ _ _ _ _ _ _ [xI 1]
  refine aw_if_eq (tgt := 16) d_J0_charAt_5068e_4 (by decide) (fun c => absurd c (by decide)) (fun _ => ?_)
  refine aw_aload_n (i := 0) d_J0_charAt_5068e_7 rfl rfl ?_
  refine aw_getSVal sf_9 d_J0_charAt_5068e_8 ?_
  refine aw_iload_n (i := 1) d_J0_charAt_5068e_11 rfl rfl ?_
  refine aw_callS0 (as := [xR (some (32, i)), xI (nI j)]) mw_J1_charAt_3b067 sm_495 rfl d_J0_charAt_5068e_12 rfl (Nat.le_of_ble_eq_true rfl) (c_j1charAt hj ?_)
  show AW G l _ _ _ _ _ _ _ _ [xI (jsC i j)]
  exact aw_ret d_J0_charAt_5068e_15 rfl hB.2.2.1 h)
end STRROWS

