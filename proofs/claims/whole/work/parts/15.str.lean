/-! String: its fields, its bytes, length and charAt -/
theorem sf_9 : Cond.fieldLink RJ0 9 "java/lang/String" "value" "[B" ∈ TW := (tw_k 6 108 (by decide +kernel) (by decide +kernel))
theorem sf_15 : Cond.fieldLink RJ0 15 "java/lang/String" "coder" "B" ∈ TW := (tw_k 6 109 (by decide +kernel) (by decide +kernel))
theorem sf_38 : Cond.fieldLink RJ0 38 "java/lang/String" "COMPACT_STRINGS" "Z" ∈ TW := (tw_k 1 203 (by decide +kernel) (by decide +kernel))
theorem sf_1053 : Cond.fieldLink RJ0 1053 "jdk/internal/util/Preconditions" "SIOOBE_FORMATTER" "Ljava/util/function/BiFunction;" ∈ TW := (tw_k 1 219 (by decide +kernel) (by decide +kernel))
theorem sm_335 : Cond.methodLink RJ0 335 yJ0_coder_7d493 ∈ TW ∧ Cond.instanceMethod yJ0_coder_7d493 ∈ TW ∧ Cond.selects RJ0 yJ0_coder_7d493 yJ0_coder_7d493 ∈ TW := ⟨(tw_k 1 199 (by decide +kernel) (by decide +kernel)), (tw_k 1 200 (by decide +kernel) (by decide +kernel)), (tw_k 1 201 (by decide +kernel) (by decide +kernel))⟩
theorem sm_492 : Cond.methodLink RJ0 492 yJ0_isLatin1_aae02 ∈ TW ∧ Cond.instanceMethod yJ0_isLatin1_aae02 ∈ TW ∧ Cond.selects RJ0 yJ0_isLatin1_aae02 yJ0_isLatin1_aae02 ∈ TW := ⟨(tw_k 1 209 (by decide +kernel) (by decide +kernel)), (tw_k 1 210 (by decide +kernel) (by decide +kernel)), (tw_k 1 211 (by decide +kernel) (by decide +kernel))⟩
theorem sm_495 : Cond.methodLink RJ0 495 yJ1_charAt_3b067 ∈ TW ∧ Cond.static yJ1_charAt_3b067 ∈ TW := ⟨(tw_k 1 213 (by decide +kernel) (by decide +kernel)), (tw_k 1 214 (by decide +kernel) (by decide +kernel))⟩
theorem sm_1059 : Cond.methodLink RJ0 1059 yJ3_checkIndex_8e157 ∈ TW ∧ Cond.static yJ3_checkIndex_8e157 ∈ TW := ⟨(tw_k 1 221 (by decide +kernel) (by decide +kernel)), (tw_k 1 139 (by decide +kernel) (by decide +kernel))⟩
theorem sm_l9 : Cond.methodLink RJ1 9 yJ0_checkIndex_df160 ∈ TW ∧ Cond.static yJ0_checkIndex_df160 ∈ TW := ⟨(tw_k 1 216 (by decide +kernel) (by decide +kernel)), (tw_k 1 217 (by decide +kernel) (by decide +kernel))⟩
section STRROWS
variable {G : GG} {l : Launch} {M : Mth} {d : Nat} {post : Option AVal → AS → Prop} {σ : AS} {kk nn pc : Nat} {L : List (Option AVal)} {st : List AVal}
/-- a constant's bytes -/
def jsN (i : Nat) : Nat := (jsB.getD i []).length
def jsC (i j : Nat) : Int32 := (jsB.getD i []).getD j 0
theorem str_32 {ad : Nat → Nat → Nat} {H : Heap} {s : State} {i : Nat} (hR : Rep G ad σ H) (K : KK G s) (hok : i < cnt σ 32) : i < 21 ∧ ad 32 i = gV G i ∧ va_T .byte (ad 32 i) (jsN i) (fun j => .int (jsC i j)) (gA0 G) s H := by
  obtain ⟨e1, e2⟩ := (hR.2.2.2.1 32 i hok).2.2 (Or.inr (Or.inr (Or.inr (Or.inr rfl))))
  have hi : i < 21 := by rw [← hR.2.2.2.2.2.2.2.2.2.2.2]; exact hok
  obtain ⟨h0, -, -, -, h4⟩ := K.2.2.2.2.1 i hi
  rw [← h0, ← e1] at h4
  exact ⟨hi, e1.trans h0, h4.kept fun a _ h => hR.2.2.2.2.1.2 a (Nat.not_le.mp h)⟩
theorem aw_getSVal {i idx : Nat} (hw : Cond.fieldLink (mO M) idx "java/lang/String" "value" "[B" ∈ TW) (hd : decode (mC M) pc = .ok (.getfield idx, 3)) (k : AW G l M d post σ kk nn (pc + 3) L (xR (some (32, i)) :: st)) : AW G l M d post σ kk nn pc L (xR (some (30, i)) :: st) := by
  intro p e R s m args below meth co Qc ad H ls locs cells slots C hR hL hst hlo hc hs hQ
  have K := C.2.2.2.2.2.2.2.2.1
  have hok : i < cnt σ 30 := ok_hd hst _ rfl
  obtain ⟨hi, h2, -⟩ := str_bytes hR K hok
  have hok2 : i < cnt σ 32 := by rw [hR.2.2.2.2.2.2.2.2.2.2.2]; exact hi
  obtain ⟨-, e3, -⟩ := str_32 hR K hok2
  obtain ⟨cf, kf, fi, f, cell, h1, h2, h3, h4, h5, h6⟩ := h2
  have h := k p e R s m args below meth co Qc ad H ls locs cells slots C hR hL (ok_c (fun n h => by cases h; exact hok2) (ok_tl hst)) hlo hc hs hQ
  refine W.getf (v := .ref (ad 32 i)) C.1 C.2.1 C.2.2.2.2.1 (C.2.2.2.2.2.1 _ hw) h1 h2 h3 h4 (by rw [e3]; exact h5) rfl rfl hd h
theorem aw_sAlen {i : Nat} (hd : decode (mC M) pc = .ok (.arraylength, 1)) (k : AW G l M d post σ kk nn (pc + 1) L (xI (nI (jsN i)) :: st)) : AW G l M d post σ kk nn pc L (xR (some (32, i)) :: st) := by
  intro p e R s m args below meth co Qc ad H ls locs cells slots C hR hL hst hlo hc hs hQ
  obtain ⟨-, -, cell, h1, h2, h3, h4, h5, h6, h7⟩ := str_32 hR C.2.2.2.2.2.2.2.2.1 (ok_hd hst _ rfl)
  exact W.alen (n := nI (jsN i)) C.1 C.2.1 h1 h2 h5 rfl rfl hd (k p e R s m args below meth co Qc ad H ls locs cells slots C hR hL (ok_c ok_t (ok_tl hst)) hlo hc hs hQ)
theorem aw_sBald {i : Nat} {j : Int32} (hd : decode (mC M) pc = .ok (.baload, 1)) (hin : vp_in j (jsN i)) (k : AW G l M d post σ kk nn (pc + 1) L (xI (jsC i j.toNatClampNeg) :: st)) : AW G l M d post σ kk nn pc L (xI j :: xR (some (32, i)) :: st) := by
  intro p e R s m args below meth co Qc ad H ls locs cells slots C hR hL hst hlo hc hs hQ
  obtain ⟨-, -, cell, h1, h2, h3, h4, h5, h6, h7⟩ := str_32 hR C.2.2.2.2.2.2.2.2.1 (ok_hd (ok_tl hst) _ rfl)
  have hlt := vp_in_lt hin
  exact W.bald (v := .int (jsC i j.toNatClampNeg)) C.1 C.2.1 h1 h2 h3 (fun h => h.elim (fun h => hin (Or.inl h)) (fun h => absurd (Nat.lt_of_lt_of_le hlt h4) (Nat.not_lt.mpr h))) (h6 _ hlt) rfl rfl hd (k p e R s m args below meth co Qc ad H ls locs cells slots C hR hL (ok_c ok_t (ok_tl (ok_tl hst))) hlo hc hs hQ)
/-- a contract that leaves its last argument open: null or any address -/
def AMetF (G : GG) (l : Launch) (M : Mth) (d mc ms : Nat) (a b : Int32) (σ : AS) (post : Option AVal → AS → Prop) : Prop :=
  ∀ (ad : Nat → Nat → Nat) (x : Value), (x = .null ∨ ∃ t, x = .ref t) → Met l (mY M) (.code (mY M) (mC M) (mL M) (mR M) :: TW) { frames := d, cells := mc, slots := ms, locals := 41 * d } (fun v U => v = ([Value.int a, Value.int b, x]).toArray ∧ Rep G ad σ U.heap ∧ KK G U) (fun _ st o t => ∃ (v : Option AVal) (ad' : Nat → Nat → Nat) (σ' : AS), o = .returned (v.map (cv ad')) ∧ Rep G ad' σ' t.heap ∧ Ext σ ad σ' ad' ∧ (∀ w ∈ v, okv σ' w) ∧ post v σ') mc ms (gA0 G)
theorem AMetF.of {mc ms : Nat} {a b : Int32} (hy : plainName (mY M).cls = true) (hl : 3 ≤ mL M) (h : AW G l M d post σ mc ms 0 [some (xI a), some (xI b)] []) : AMetF G l M d mc ms a b σ post := by
  intro ad x hx
  refine Met.ofW (cc := mC M) (maxL := mL M) (ret := mR M) hy rfl ?_
  intro p e s m args below meth c s₁ B hml hv
  obtain ⟨rfl, hR, hK⟩ := hv
  have hts : ∀ w ∈ (Cond.code (mY M) (mC M) (mL M) (mR M) :: TW), w.before ([Value.int a, Value.int b, x].toArray) s = true := atoms_spec B.pre
  have hown : s.vm.findClass (mY M).cls = some m.cls := findClass_of_methodNamed B.named
  rw [lg_entry_eq]
  have hsl : lg_sl [Value.int a, Value.int b, x] = [.val (.int a), .val (.int b), .val x] := by rcases hx with rfl | ⟨t, rfl⟩ <;> rfl
  have hle := lv_entry [Value.int a, Value.int b, x] (n := mL M) (by rw [hsl]; exact hl)
  refine h p e _ s m _ below meth c _ ad s.heap _ [] 0 0 ⟨B.exec, B.bytes, hml, B.returns, hown, fun w hw => hts w (List.mem_cons_of_mem _ hw), B.notSynchronized, (name_of_methodNamed B.named B.method).1, hK, Nat.le_refl _, Nat.le_refl _⟩ hR ⟨hle.1, hle.2.1, fun i v hi => ?_⟩ (fun _ h => by cases h) (fun _ h => by cases h) (by show 0 + mc ≤ mc; omega) (by show 0 + ms ≤ ms; omega) (fun v ad' σ' t hW hR' hE hok' hp => ⟨v, ad', σ', rfl, hR', hE, hok', hp⟩)
  rw [hsl]
  rcases i with _ | _ | i
  · cases hi; exact ⟨rfl, trivial⟩
  · cases hi; exact ⟨rfl, trivial⟩
  · cases hi
theorem aw_fmtS {M' : Mth} {idx idx2 d' mc ms : Nat} {a b : Int32} (hf : Cond.fieldLink (mO M) idx "jdk/internal/util/Preconditions" "SIOOBE_FORMATTER" "Ljava/util/function/BiFunction;" ∈ TW) (hw : MW M' 3) (hl : Cond.methodLink (mO M) idx2 (mY M') ∈ TW ∧ Cond.static (mY M') ∈ TW) (hd : decode (mC M) pc = .ok (.getstatic idx, 3)) (hd2 : decode (mC M) (pc + 3) = .ok (.invokestatic idx2, 3)) (h4 : st.length ≤ 4)
    (hm : AMetF G l M' d' mc ms a b σ (fun v σ' => AW G l M (d' + 1) post σ' kk nn (pc + 3 + 3) L (v.toList ++ st))) : AW G l M (d' + 1) post σ (kk + mc) (nn + ms) pc L (xI b :: xI a :: st) := by
  intro p e R s m args below meth co Qc ad H ls locs cells slots C hR hL hst hlo hc hs hQ
  have hts := C.2.2.2.2.2.1
  have K := C.2.2.2.2.2.2.2.2.1
  have hokst : ∀ v ∈ st, okv σ v := ok_tl (ok_tl hst)
  have hfr := C.2.2.2.2.2.2.2.2.2
  have hroom : mL M' + 11 + 8 + 41 * d' ≤ R.locals := by have := hfr.2; have := hw.2.2.1; omega
  have main : ∀ x : Value, (x = .null ∨ ∃ t, x = .ref t) → W p l e R s m args below meth co H locs cells slots (MQ below Qc args s R.cells R.slots (gA0 G)) (F0 m (pc + 3) ls (x :: (xI b :: xI a :: st).map (cv ad))) := by
    intro x hx
    refine aw_goOn (va_runS (Ts := TW) (own := mO M) (y := mY M') (As := [Value.int a, Value.int b, x]) (rest := st.map (cv ad)) ⟨C.1, C.2.1, C.2.2.1, C.2.2.2.2.1, hts⟩ (hm ad x hx) (va_cwS 3 hts (goodIn_cat (tw_GoodIn (fun w h => ?_)) (mw_good hw)) rfl rfl rfl hw.2.2.2 ⟨hfr.1, by show 8 + (mL M' + 11) + 41 * d' ≤ R.locals; omega⟩) ⟨fun a U g mk ⟨h1, h2, h3⟩ => ⟨h1, h2, KK.blind h3⟩, fun U hU hW => ⟨rfl, by rw [hU]; exact hR, KK.warm hW K⟩⟩ rfl rfl hL.1 rfl (lv_room (Nat.le_trans (cat_le ad st) (by omega))) hd2 ⟨by omega, by omega⟩) C hL hokst hlo hc hs hQ (fun st₀ v t ⟨v', ad', σ', e, h2, h3, h4, h5⟩ => ⟨v', ad', σ', Outcome.returned.inj e, h2, h3, h4, h5⟩)
    rcases List.mem_cons.mp h with rfl | h
    · exact hl.1
    · rcases List.mem_cons.mp h with rfl | h
      · exact hl.2
      · rcases List.mem_cons.mp h with rfl | h
        · exact hw.2.1
        · cases h
  rcases K.2.2.2.2.2.2.2.2 with h | ⟨t, h⟩
  · obtain ⟨cf, kf, fi, f, a', cell, h1, h2, h3, h4, h5, h6, h7, h8⟩ := h
    exact W.gets (v := .null) C.1 C.2.1 C.2.2.2.2.1 (C.2.2.2.2.2.1 _ hf) h1 h2 h3 h4 (by rw [hR.2.2.2.2.1.2 a' (Nat.not_le.mp h8)]; exact h5) (fun e => by rw [e] at h6; cases h6) h7 rfl hd (main _ (Or.inl rfl))
  · obtain ⟨cf, kf, fi, f, a', cell, h1, h2, h3, h4, h5, h6, h7, h8⟩ := h
    exact W.gets (v := .ref t) C.1 C.2.1 C.2.2.2.2.1 (C.2.2.2.2.2.1 _ hf) h1 h2 h3 h4 (by rw [hR.2.2.2.2.1.2 a' (Nat.not_le.mp h8)]; exact h5) (fun e => by rw [e] at h6; cases h6) h7 rfl hd (main _ (Or.inr ⟨t, rfl⟩))
end STRROWS

