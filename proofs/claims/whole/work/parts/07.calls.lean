/-! Rows of new cells, of calls, of ends. -/
section ROWS3
variable {G : GG} {l : Launch} {M : Mth} {d : Nat} {post : Option AVal → AS → Prop} {σ : AS} {kk nn pc : Nat} {L : List (Option AVal)} {st : List AVal}
theorem cls_def0 : ∀ c, c < 14 → ∀ f, f < (vwCl.getD c ("", TX0, 0)).2.2 → defaultValue (tyT c f) = if isRf c f = true then .null else .int 0 := by decide +kernel
theorem cls_def {c : Nat} {r : vw_C} (h : vwCl[c]? = some r) : ∀ f, f < r.2.2 → defaultValue (tyT c f) = if isRf c f = true then .null else .int 0 := by
  have := cls_def0 c (cls_lt h)
  rw [cls_getD h] at this
  exact this
/-- a new cell: what goes on -/
theorem aw_fresh {p : Program} {e : Env} {R : Room} {s : State} {m : MethodId} {args : Array Value} {below : List Frame} {meth : Method} {co : Code} {Qc : Array Value → State → Outcome → State → Prop} {ad : Nat → Nat → Nat} {H H1 : Heap} {ls : Array Slot} {locs : List Loc} {cells slots : Nat} {c n pc2 : Nat} (k : AW G l M d post (nA σ c n) kk nn pc2 L (xR (some (c, cnt σ c)) :: st)) (C : Cx G M d p R s m args meth co) (hL : LR σ ad (mL M) L ls) (hst : ∀ v ∈ st, okv σ v) (hlo : ∀ q ∈ locs, gB G ≤ q.base) (hc : cells + kk ≤ R.cells) (hs : slots + nn ≤ R.slots)
    (hQ : ∀ (v : Option AVal) (ad' : Nat → Nat → Nat) (σ' : AS) (t : State), s.WarmedH t.vm → Rep G ad' σ' t.heap → Ext σ ad σ' ad' → (∀ w ∈ v, okv σ' w) → post v σ' → Qc args s (.returned (v.map (cv ad'))) t) (hR' : Rep G (adU ad c (cnt σ c) H.size) (nA σ c n) H1) (hE : Ext σ ad (nA σ c n) (adU ad c (cnt σ c) H.size)) :
    W p l e R s m args below meth co H1 locs cells slots (MQ below Qc args s R.cells R.slots (gA0 G)) (F0 m pc2 ls (.ref H.size :: st.map (cv ad))) := by
  have e2 := ext_cvs hE hst
  have h := k p e R s m args below meth co Qc _ H1 ls locs cells slots C hR' (hL.ext hE) (ok_c (fun n h => by cases h; show cnt σ c < cnt (nA σ c _) c; rw [cnt_nA, if_pos rfl]; omega) (fun v hv => ext_okv hE (hst v hv))) hlo hc hs (fun v ad' σ2 t hW hR2 hE2 => hQ v ad' σ2 t hW hR2 (hE.tr hE2))
  rw [List.map_cons, e2] at h
  have e3 : cv (adU ad c (cnt σ c) H.size) (xR (some (c, cnt σ c))) = .ref H.size := by
    show va_rf (some (adU ad c (cnt σ c) H.size c (cnt σ c))) = _
    rw [adU_self]
    rfl
  rw [e3] at h
  exact h
theorem rep_nA {ad : Nat → Nat → Nat} {H H' : Heap} {c n : Nat} (hR : Rep G ad σ H) (hc : c ≠ 30 ∧ c ≠ 31 ∧ c ≠ 27 ∧ c ≠ 32 ∧ (c = 23 → 0 < cnt σ 23)) (z : H'.size = H.size + 1) (oq : ∀ q, q < H.size → H'[q]? = H[q]?)
    (obj : ∀ r, vwCl[c]? = some r → t_OB H.size (G.1.1 c) r.2.2 (G.1.2 c) H' (fun f => if isRf c f = true then .null else .int 0)) (arr : 20 ≤ c → c < 28 → H'[H.size]? = some (match aty c with | 3 => arrV (G.2.1 3) n (fun _ => .null) | 4 => arrV (G.2.1 4) n (fun _ => .long 0) | t => arrV (G.2.1 t) n (fun _ => .int 0))) :
    Rep G (adU ad c (cnt σ c) H.size) (nA σ c n) H' ∧ Ext σ ad (nA σ c n) (adU ad c (cnt σ c) H.size) := by
  refine rep_new (σ' := nA σ c n) hR hc z oq (fun x => by rw [cnt_nA]) (fun r hr => (obj r hr).to (fun f _ => ?_)) (fun h1 h2 => (arr h1 h2).trans (congrArg some ?_)) (fun x f y hne => by rw [gI_nA, if_neg hne]) (fun x f y hne => by rw [gR_nA, if_neg hne]) (fun x y hne => ⟨fun j => by rw [gA_nA, if_neg hne], fun j => by rw [gQ_nA, if_neg hne], fun j => by rw [gL_nA, if_neg hne], by rw [gN_nA, if_neg hne]⟩)
    (fun f => Or.inl (by rw [gR_nA, if_pos ⟨rfl, rfl⟩])) (fun j => Or.inl (by rw [gQ_nA, if_pos ⟨rfl, rfl⟩])) (fun f n h => by rw [gR_nA, if_pos ⟨rfl, rfl⟩] at h; cases h) (fun j n h => by rw [gQ_nA, if_pos ⟨rfl, rfl⟩] at h; cases h)
  · unfold fv
    rw [gI_nA, gR_nA, if_pos (show c = c ∧ cnt σ c = cnt σ c from ⟨rfl, rfl⟩), if_pos (show c = c ∧ cnt σ c = cnt σ c from ⟨rfl, rfl⟩)]
    rfl
  · have e1 : gA (nA σ c n) c (cnt σ c) = fun _ => 0 := funext fun j => by rw [gA_nA, if_pos ⟨rfl, rfl⟩]
    have e2 : gQ (nA σ c n) c (cnt σ c) = fun _ => none := funext fun j => by rw [gQ_nA, if_pos ⟨rfl, rfl⟩]
    have e3 : gL (nA σ c n) c (cnt σ c) = fun _ => 0 := funext fun j => by rw [gL_nA, if_pos ⟨rfl, rfl⟩]
    have e4 : gN (nA σ c n) c (cnt σ c) = n := by rw [gN_nA, if_pos ⟨rfl, rfl⟩]
    unfold acell
    rw [fixz_o (fun q => by
      rcases q with ⟨q1, q2⟩ | ⟨q1, q2⟩
      · have h0 := hc.2.2.2.2 q1
        rw [q1] at q2; omega
      · exact hc.2.2.1 q1)]
    unfold acell0
    rw [e1, e2, e3, e4]
    rfl
/-- new object -/
theorem aw_new {c idx n : Nat} {r : vw_C} (hr : vwCl[c]? = some r) (hn : r.2.2 = n) (hw : Cond.classLink (mO M) idx r.1 ∈ TW ∧ Cond.instantiable r.1 n ∈ TW ∧ Cond.initialized r.1 ∈ TW) (hd : decode (mC M) pc = .ok (.new idx, 3)) (k : AW G l M d post (nO σ c) kk nn (pc + 3) L (xR (some (c, cnt σ c)) :: st)) : AW G l M d post σ (kk + 1) (nn + n) pc L st := by
  intro p e R s m args below meth co Qc ad H ls locs cells slots C hR hL hst hlo hc hs hQ
  subst hn
  have hts := C.2.2.2.2.2.1
  have hKn := C.2.2.2.2.2.2.2.2.1.1.1 c _ hr
  have h14 := cls_lt hr
  refine W.newcK C.1 C.2.1 C.2.2.2.2.1 (hts _ hw.1) (hts _ hw.2.1) (hts _ hw.2.2) rfl hd (by omega) (by omega) hKn.2.1 rfl fun H1 kC hkC e1 z1 o1 => ?_
  obtain ⟨hR', hE⟩ := rep_nA (n := 0) hR (c := c) ⟨by omega, by omega, by omega, by omega, fun h => by omega⟩ z1 o1 (fun r' hr' => by
      cases hr.symm.trans hr'
      exact (u_born (tyT c) hts (cls_in hr) hKn hkC e1 (cls_ty hr)).to (fun f hf => cls_def hr f hf)) (fun h20 _ => absurd h14 (by omega))
  exact aw_fresh k C hL hst hlo (by omega) (by omega) hQ hR' hE
/-- new array of numbers; its kind is ours to choose, its sort not -/
theorem aw_newarr (c : Nat) {at0 : ArrayType} {t : Nat} {x : Int32} {N : Nat} (hN : x.toNatClampNeg = N) (hc28 : 20 ≤ c ∧ c < 27 ∧ c ≠ 23) (ht : aty c = t) (hty : (t = 0 ∧ newarray.typeOf at0 = .int) ∨ (t = 1 ∧ newarray.typeOf at0 = .boolean) ∨ (t = 2 ∧ newarray.typeOf at0 = .byte) ∨ (t = 4 ∧ newarray.typeOf at0 = .long)) (hw : Cond.arrayClass (newarray.typeOf at0) ∈ TW) (hd : decode (mC M) pc = .ok (.newarray at0, 2)) (hx : ¬ x < 0) (hbig : N ≤ 60000000) (k : AW G l M d post (nA σ c N) kk nn (pc + 2) L (xR (some (c, cnt σ c)) :: st)) : AW G l M d post σ (kk + 1) (nn + N) pc L (xI x :: st) := by
  intro p e R s m args below meth co Qc ad H ls locs cells slots C hR hL hst hlo hc hs hQ
  have K := C.2.2.2.2.2.2.2.2.1
  have hcb : N * componentBytes (newarray.typeOf at0) ≤ 536870912 := by
    have : componentBytes (newarray.typeOf at0) ≤ 8 := by
      rcases hty with ⟨-, h⟩ | ⟨-, h⟩ | ⟨-, h⟩ | ⟨-, h⟩ <;> rw [h] <;> decide
    calc N * componentBytes (newarray.typeOf at0) ≤ N * 8 := Nat.mul_le_mul_left _ this
      _ ≤ 60000000 * 8 := Nat.mul_le_mul_right _ hbig
      _ ≤ 536870912 := by decide
  refine va_newaK C.1 C.2.1 (C.2.2.2.2.2.1 _ hw) rfl hd rfl hx hN hcb (by omega) (by omega) rfl fun H1 cA e1 z1 o1 hAr hNm => ?_
  have hcA : cA = G.2.1 t := by
    rcases hty with ⟨rfl, h⟩ | ⟨rfl, h⟩ | ⟨rfl, h⟩ | ⟨rfl, h⟩ <;> rw [h] at hNm
    · exact Option.some.inj (hNm.symm.trans (K.1.2 0 _ rfl).2)
    · exact Option.some.inj (hNm.symm.trans (K.1.2 1 _ rfl).2)
    · exact Option.some.inj (hNm.symm.trans (K.1.2 2 _ rfl).2)
    · exact Option.some.inj (hNm.symm.trans (K.1.2 4 _ rfl).2)
  obtain ⟨hR', hE⟩ := rep_nA (n := N) hR (c := c) ⟨by omega, by omega, by omega, by omega, fun h => absurd h hc28.2.2⟩ z1 o1 (fun r' hr' => absurd (cls_lt hr') (by omega)) (fun _ _ => by
    rw [e1, hcA]
    rcases hty with ⟨rfl, h⟩ | ⟨rfl, h⟩ | ⟨rfl, h⟩ | ⟨rfl, h⟩ <;> rw [h, ht] <;> rfl)
  exact aw_fresh k C hL (ok_tl hst) hlo (by omega) (by omega) hQ hR' hE
/-- new array of Objects -/
theorem aw_newobj {idx : Nat} {x : Int32} {N : Nat} (hN : x.toNatClampNeg = N) (hw : Cond.classLink (mO M) idx "java/lang/Object" ∈ TW) (hd : decode (mC M) pc = .ok (.anewarray idx, 3)) (hx : ¬ x < 0) (hbig : N ≤ 60000000) (k : AW G l M d post (nA σ 23 N) kk nn (pc + 3) L (xR (some (23, cnt σ 23)) :: st)) : AW G l M d post σ (kk + 1) (nn + N) pc L (xI x :: st) := by
  intro p e R s m args below meth co Qc ad H ls locs cells slots C hR hL hst hlo hc hs hQ
  have K := C.2.2.2.2.2.2.2.2.1
  subst hN
  refine W.anew C.1 C.2.1 C.2.2.2.2.1 (C.2.2.2.2.2.1 _ hw) (va_AO.use K.2.2.2.1.2.1) rfl hd rfl hx (by omega) (by omega) (by omega) fun cA kA comp f1 f2 f3 f4 => ?_
  generalize hH1 : H.push ({ cls := cA, slots := Array.replicate x.toNatClampNeg .null, vm := .none } : Cell) = H1
  have z1 : H1.size = H.size + 1 := by rw [← hH1, Array.size_push]
  have e1 : H1[H.size]? = some (arrV cA x.toNatClampNeg (fun _ => .null)) := by rw [← hH1, Array.getElem?_push_size, ← arrV_new]
  have o1 : ∀ q : Nat, q < H.size → H1[q]? = H[q]? := fun q hq => by rw [← hH1, Array.getElem?_push, if_neg (Nat.ne_of_lt hq)]
  have hcA : cA = G.2.1 3 := by
    obtain ⟨_, _, _, _, _, h4⟩ := (K.1.2 3 _ rfl).2
    exact Option.some.inj (f1.symm.trans h4)
  obtain ⟨hR', hE⟩ := rep_nA (n := x.toNatClampNeg) hR (c := 23) ⟨by omega, by omega, by omega, by omega, fun _ => hR.2.2.2.2.2.2.2.2.1⟩ z1 o1 (fun r' hr' => absurd (cls_lt hr') (by omega)) (fun _ _ => by
    rw [e1, hcA]
    rfl)
  exact aw_fresh k C hL (ok_tl hst) hlo (by omega) (by omega) hQ hR' hE
theorem goodIn_cat {big a b : List Cond} (ha : GoodIn big a) (hb : GoodIn big b) : GoodIn big (a ++ b) := fun w h => (List.mem_append.mp h).elim (ha w) (hb w)
theorem cat_le (ad : Nat → Nat → Nat) : ∀ st : List AVal, ((st.map (cv ad)).map fun v => v.category).sum ≤ 2 * st.length
  | [] => Nat.zero_le _
  | v :: st => by
    have h := cat_le ad st
    have : (cv ad v).category ≤ 2 := by rcases lv_cat (cv ad v) with e | e <;> omega
    simp only [List.map_cons, List.sum_cons, List.length_cons]
    omega
theorem toL_map (f : AVal → Value) (v : Option AVal) : (v.map f).toList = v.toList.map f := by cases v <;> rfl
/-- behind a call -/
theorem aw_goOn {p : Program} {e : Env} {R : Room} {s : State} {m : MethodId} {args : Array Value} {below : List Frame} {meth : Method} {co : Code} {Qc : Array Value → State → Outcome → State → Prop} {ad : Nat → Nat → Nat} {H : Heap} {ls : Array Slot} {locs : List Loc} {cells slots mc ms : Nat} {stk : List Value} {Qa : State → Outcome → State → Prop}
    (hr : va_Run p l e R s m args below meth co H locs cells slots mc ms (F0 m pc ls stk) (st.map (cv ad)) Qa (gA0 G)) (C : Cx G M d p R s m args meth co) (hL : LR σ ad (mL M) L ls) (hst : ∀ v ∈ st, okv σ v) (hlo : ∀ q ∈ locs, gB G ≤ q.base) (hc : cells + (kk + mc) ≤ R.cells) (hs : slots + (nn + ms) ≤ R.slots)
    (hQ : ∀ (v : Option AVal) (ad' : Nat → Nat → Nat) (σ' : AS) (t : State), s.WarmedH t.vm → Rep G ad' σ' t.heap → Ext σ ad σ' ad' → (∀ w ∈ v, okv σ' w) → post v σ' → Qc args s (.returned (v.map (cv ad'))) t)
    (hQa : ∀ (st₀ : State) (v : Option Value) (t : State), Qa st₀ (.returned v) t → ∃ (v' : Option AVal) (ad' : Nat → Nat → Nat) (σ' : AS), v = v'.map (cv ad') ∧ Rep G ad' σ' t.heap ∧ Ext σ ad σ' ad' ∧ (∀ w ∈ v', okv σ' w) ∧ AW G l M d post σ' kk nn (pc + 3) L (v'.toList ++ st)) :
    W p l e R s m args below meth co H locs cells slots (MQ below Qc args s R.cells R.slots (gA0 G)) (F0 m pc ls stk) := by
  intro T hT X
  obtain ⟨v, st₀, t, T', Lo, h0, X', hLo, e1, e2, hqa, hgo⟩ := hr T hT X
  obtain ⟨v', ad', σ', rfl, hR', hE, hok, k⟩ := hQa st₀ v t hqa
  have h := k p e R s m args below meth co Qc ad' T'.heap ls (locs ++ Lo) (cells + mc) (slots + ms) C (by rw [e1]; exact hR') (hL.ext hE) (fun w hw => by
      rcases List.mem_append.mp hw with h | h
      · exact hok w (Option.mem_toList.mp h)
      · exact ext_okv hE (hst w h)) (fun q hq => by
      rcases List.mem_append.mp hq with h | h
      · exact hlo q h
      · exact hLo q h) (by omega) (by omega) (fun v ad2 σ2 t hW hR2 hE2 => hQ v ad2 σ2 t hW hR2 (hE.tr hE2))
  rw [List.map_append, ext_cvs hE hst, ← toL_map] at h
  obtain ⟨t2, a1, b1⟩ := h T' rfl X'
  exact ⟨t2, hgo t2 a1, b1⟩
/-- the class of a receiver by its kind -/
def rcls (c : Nat) : String := if c = 30 then "java/lang/String" else (vwCl.getD c ("", TX0, 0)).1
theorem rcv_of {ad : Nat → Nat → Nat} {H : Heap} {s : State} {c i : Nat} (hR : Rep G ad σ H) (hK : KK G s) (h : c < 14 ∨ c = 30) (hok : i < cnt σ c) : ∃ cell : Cell, H[ad c i]? = some cell ∧ cell.vm.isStatics = false ∧ s.vm.findClass (rcls c) = some cell.cls := by
  rcases h with h | rfl
  · obtain ⟨r, hr⟩ : ∃ r, vwCl[c]? = some r := ⟨_, List.getElem?_eq_getElem (show c < vwCl.length from h)⟩
    obtain ⟨cell, q1, q2, q3, -⟩ := hR.1 c i hok r hr
    obtain ⟨-, hfc, -⟩ := hK.1.1 c _ hr
    refine ⟨cell, q1, by rw [q3]; rfl, ?_⟩
    unfold rcls
    rw [if_neg (by omega), cls_getD hr, q2]
    exact hfc
  · obtain ⟨-, -, h3⟩ := hR.2.2.2.1 30 i hok
    obtain ⟨e1, e2⟩ := h3 (Or.inr (Or.inr (Or.inl rfl)))
    have e2 := e2 (by decide)
    have hi : i < 21 := by rw [← hR.2.2.2.2.2.2.2.2.2.1]; exact hok
    obtain ⟨cell, g1, g2, g3, -⟩ := (hK.2.2.2.2.1 i hi).2.1
    exact ⟨cell, by rw [hR.2.2.2.2.1.2 _ e2, e1]; exact g1, g2, g3⟩
def pcOf (G : GG) (ad : Nat → Nat → Nat) (as : List AVal) (σ : AS) : Array Value → State → Prop := fun v U => v = (as.map (cv ad)).toArray ∧ Rep G ad σ U.heap ∧ (∀ v ∈ as, okv σ v) ∧ KK G U
theorem pcOf_blind {ad : Nat → Nat → Nat} {as : List AVal} : FrameBlind (pcOf G ad as σ) := fun a U g mk ⟨h1, h2, h3, h4⟩ => ⟨h1, h2, h3, KK.blind h4⟩
theorem mw_good {M' : Mth} {n : Nat} (h : MW M' n) : GoodIn TW (.code (mY M') (mC M') (mL M') (mR M') :: TW) := tw_GoodIn (fun w hw => (List.mem_cons.mp hw).elim (fun e => e ▸ h.1) id)
theorem aw_callV {M' : Mth} {idx n d' mc ms c i : Nat} {as stk : List AVal} (hw : MW M' n) (hcls : rcls c = (mY M').cls ∧ (c < 14 ∨ c = 30)) (hl : Cond.methodLink (mO M) idx (mY M') ∈ TW ∧ Cond.instanceMethod (mY M') ∈ TW ∧ Cond.selects (mY M').cls (mY M') (mY M') ∈ TW) (hn : as.length = n) (hd : decode (mC M) pc = .ok (.invokevirtual idx, 3)) (hstk : stk = as.reverse ++ xR (some (c, i)) :: st) (h4 : st.length ≤ 4)
    (hm : AMet G l M' d' mc ms (xR (some (c, i)) :: as) σ (fun v σ' => AW G l M (d' + 1) post σ' kk nn (pc + 3) L (v.toList ++ st))) : AW G l M (d' + 1) post σ (kk + mc) (nn + ms) pc L stk := by
  intro p e R s m args below meth co Qc ad H ls locs cells slots C hR hL hst hlo hc hs hQ
  subst hstk
  have hts := C.2.2.2.2.2.1
  have K := C.2.2.2.2.2.2.2.2.1
  have hokr : okv σ (xR (some (c, i))) := hst _ (List.mem_append_right _ List.mem_cons_self)
  have hokst : ∀ v ∈ st, okv σ v := fun v hv => hst v (List.mem_append_right _ (List.mem_cons_of_mem _ hv))
  have hoka : ∀ v ∈ xR (some (c, i)) :: as, okv σ v := ok_c hokr (fun v hv => hst v (List.mem_append_left _ (List.mem_reverse.mpr hv)))
  have hfr := C.2.2.2.2.2.2.2.2.2
  refine aw_goOn (va_runV (Ts := TW) (own := mO M) (C := (mY M').cls) (y := mY M') (b := ad c i) (As := as.map (cv ad)) (rest := st.map (cv ad)) ⟨C.1, C.2.1, C.2.2.1, C.2.2.2.2.1, hts⟩ (hm ad) (cwV n hts (goodIn_cat (tw_GoodIn (fun w h => ?_)) (mw_good hw)) rfl rfl rfl ⟨rfl, hw.2.2.2⟩ ⟨hfr.1, by have := hfr.2; have := hw.2.2.1; show 8 + (mL M' + 11) + 41 * d' ≤ R.locals; omega⟩) ⟨pcOf_blind (as := xR (some (c, i)) :: as), by rw [← hcls.1]; exact rcv_of hR K hcls.2 (hokr _ rfl), fun U hU hW => ⟨rfl, by rw [hU]; exact hR, hoka, KK.warm hW K⟩⟩ rfl (by rw [List.length_map]; exact hn) hL.1 (by rw [List.map_append, List.map_reverse]; rfl) (lv_room (Nat.le_trans (cat_le ad st) (by omega))) hd ⟨by omega, by omega⟩) C hL hokst hlo hc hs hQ (fun st₀ v t ⟨v', ad', σ', e, h2, h3, h4, h5⟩ => ⟨v', ad', σ', Outcome.returned.inj e, h2, h3, h4, h5⟩)
  rcases List.mem_cons.mp h with rfl | h
  · exact hl.1
  · rcases List.mem_cons.mp h with rfl | h
    · exact hl.2.1
    · rcases List.mem_cons.mp h with rfl | h
      · exact hl.2.2
      · rcases List.mem_cons.mp h with rfl | h
        · exact hw.2.1
        · cases h

theorem aw_callS {M' : Mth} {idx n d' mc ms : Nat} {as stk : List AVal} (hw : MW M' n) (hl : Cond.methodLink (mO M) idx (mY M') ∈ TW ∧ Cond.static (mY M') ∈ TW) (hn : as.length = n) (hd : decode (mC M) pc = .ok (.invokestatic idx, 3)) (hstk : stk = as.reverse ++ st) (h4 : st.length ≤ 4)
    (hm : AMet G l M' d' mc ms (as) σ (fun v σ' => AW G l M (d' + 1) post σ' kk nn (pc + 3) L (v.toList ++ st))) : AW G l M (d' + 1) post σ (kk + mc) (nn + ms) pc L stk := by
  intro p e R s m args below meth co Qc ad H ls locs cells slots C hR hL hst hlo hc hs hQ
  subst hstk
  have hts := C.2.2.2.2.2.1
  have K := C.2.2.2.2.2.2.2.2.1
  have hokst : ∀ v ∈ st, okv σ v := fun v hv => hst v (List.mem_append_right _ hv)
  have hoka : ∀ v ∈ as, okv σ v := fun v hv => hst v (List.mem_append_left _ (List.mem_reverse.mpr hv))
  have hfr := C.2.2.2.2.2.2.2.2.2
  have hroom : mL M' + 11 + 8 + 41 * d' ≤ R.locals := by have := hfr.2; have := hw.2.2.1; omega
  refine aw_goOn (va_runS (Ts := TW) (own := mO M) (y := mY M') (As := as.map (cv ad)) (rest := st.map (cv ad)) ⟨C.1, C.2.1, C.2.2.1, C.2.2.2.2.1, hts⟩ (hm ad) (va_cwS n hts (goodIn_cat (tw_GoodIn (fun w h => ?_)) (mw_good hw)) rfl rfl rfl hw.2.2.2 ⟨hfr.1, by show 8 + (mL M' + 11) + 41 * d' ≤ R.locals; omega⟩) ⟨pcOf_blind (as := as), fun U hU hW => ⟨rfl, by rw [hU]; exact hR, hoka, KK.warm hW K⟩⟩ rfl (by rw [List.length_map]; exact hn) hL.1 (by rw [List.map_append, List.map_reverse]) (lv_room (Nat.le_trans (cat_le ad st) (by omega))) hd ⟨by omega, by omega⟩) C hL hokst hlo hc hs hQ (fun st₀ v t ⟨v', ad', σ', e, h2, h3, h4, h5⟩ => ⟨v', ad', σ', Outcome.returned.inj e, h2, h3, h4, h5⟩)
  rcases List.mem_cons.mp h with rfl | h
  · exact hl.1
  · rcases List.mem_cons.mp h with rfl | h
    · exact hl.2
    · rcases List.mem_cons.mp h with rfl | h
      · exact hw.2.1
      · cases h
theorem aw_callSN {M' : Mth} {idx n d' mc ms  : Nat} {as stk : List AVal} (hw : MW M' n) {host : String} (hl : (mO M, idx, mY M', host) ∈ nestW ∧ Cond.static (mY M') ∈ TW) (hn : as.length = n) (hd : decode (mC M) pc = .ok (.invokestatic idx, 3)) (hstk : stk = as.reverse ++ st) (h4 : st.length ≤ 4)
    (hm : AMet G l M' d' mc ms (as) σ (fun v σ' => AW G l M (d' + 1) post σ' kk nn (pc + 3) L (v.toList ++ st))) : AW G l M (d' + 1) post σ (kk + mc) (nn + ms) pc L stk := by
  intro p e R s m args below meth co Qc ad H ls locs cells slots C hR hL hst hlo hc hs hQ
  subst hstk
  have hts := C.2.2.2.2.2.1
  have K := C.2.2.2.2.2.2.2.2.1
  have hokst : ∀ v ∈ st, okv σ v := fun v hv => hst v (List.mem_append_right _ hv)
  have hoka : ∀ v ∈ as, okv σ v := fun v hv => hst v (List.mem_append_left _ (List.mem_reverse.mpr hv))
  have hfr := C.2.2.2.2.2.2.2.2.2
  have hroom : mL M' + 11 + 8 + 41 * d' ≤ R.locals := by have := hfr.2; have := hw.2.2.1; omega
  refine aw_goOn (va_runSN (host := host) (Ts := TW) (own := mO M) (y := mY M') (As := as.map (cv ad)) (rest := st.map (cv ad)) ⟨C.1, C.2.1, C.2.2.1, C.2.2.2.2.1, hts⟩ (hm ad) ⟨(va_cnB n hts (mw_good hw) rfl rfl rfl (K.2.1 _ hl.1) (hts _ hw.2.1) hw.2.2.2 ⟨hfr.1, by show 8 + (mL M' + 11) + 41 * d' ≤ R.locals; omega⟩), hts _ hl.2, trivial⟩ ⟨pcOf_blind (as := as), fun U hU hW => ⟨rfl, by rw [hU]; exact hR, hoka, KK.warm hW K⟩⟩ rfl (by rw [List.length_map]; exact hn) hL.1 (by rw [List.map_append, List.map_reverse]) (lv_room (Nat.le_trans (cat_le ad st) (by omega))) hd ⟨by omega, by omega⟩) C hL hokst hlo hc hs hQ (fun st₀ v t ⟨v', ad', σ', e, h2, h3, h4, h5⟩ => ⟨v', ad', σ', Outcome.returned.inj e, h2, h3, h4, h5⟩)
theorem aw_callI {M' : Mth} {idx n d' mc ms c i : Nat} {as stk : List AVal} (hw : MW M' n) (hret : mR M' = none) (hname : (mY M').name = "<init>") (hl : Cond.methodLink (mO M) idx (mY M') ∈ TW ∧ Cond.instanceMethod (mY M') ∈ TW) (hn : as.length = n) (hd : decode (mC M) pc = .ok (.invokespecial idx, 3)) (hstk : stk = as.reverse ++ xR (some (c, i)) :: st) (h4 : st.length ≤ 4)
    (hm : AMet G l M' d' mc ms (xR (some (c, i)) :: as) σ (fun v σ' => AW G l M (d' + 1) post σ' kk nn (pc + 3) L (v.toList ++ st))) : AW G l M (d' + 1) post σ (kk + mc) (nn + ms) pc L stk := by
  intro p e R s m args below meth co Qc ad H ls locs cells slots C hR hL hst hlo hc hs hQ
  subst hstk
  have hts := C.2.2.2.2.2.1
  have K := C.2.2.2.2.2.2.2.2.1
  have hokr : okv σ (xR (some (c, i))) := hst _ (List.mem_append_right _ List.mem_cons_self)
  have hokst : ∀ v ∈ st, okv σ v := fun v hv => hst v (List.mem_append_right _ (List.mem_cons_of_mem _ hv))
  have hoka : ∀ v ∈ xR (some (c, i)) :: as, okv σ v := ok_c hokr (fun v hv => hst v (List.mem_append_left _ (List.mem_reverse.mpr hv)))
  have hfr := C.2.2.2.2.2.2.2.2.2
  have hroom : mL M' + 11 + 8 + 41 * d' ≤ R.locals := by have := hfr.2; have := hw.2.2.1; omega
  refine aw_goOn (va_runI (Ts := TW) (own := mO M) (y := mY M') (As := as.map (cv ad)) (rest := st.map (cv ad)) (bytes := mC M') (maxL := mL M') (b := ad c i) ⟨C.1, C.2.1, C.2.2.1, C.2.2.2.2.1, hts⟩ (hm ad) (cwI (ws' := TW) n hts (mw_good hw) (by rw [hret]) rfl rfl (hts _ hw.2.1) (hts _ hl.1) (hts _ hl.2) hname hw.2.2.2 ⟨hfr.1, by show 8 + (mL M' + 11) + 41 * d' ≤ R.locals; omega⟩) ⟨pcOf_blind (as := xR (some (c, i)) :: as), fun U hU hW => ⟨rfl, by rw [hU]; exact hR, hoka, KK.warm hW K⟩⟩ rfl (by rw [List.length_map]; exact hn) hL.1 (by rw [List.map_append, List.map_reverse]; rfl) (lv_room (Nat.le_trans (cat_le ad st) (by omega))) hd ⟨by omega, by omega⟩) C hL hokst hlo hc hs hQ (fun st₀ v t ⟨v', ad', σ', e, h2, h3, h4, h5⟩ => ⟨v', ad', σ', Outcome.returned.inj e, h2, h3, h4, h5⟩)
theorem aw_callIN {M' : Mth} {idx n d' mc ms c i : Nat} {as stk : List AVal} (hw : MW M' n) {host : String} (hret : mR M' = none) (hname : (mY M').name = "<init>") (hl : (mO M, idx, mY M', host) ∈ nestW ∧ Cond.instanceMethod (mY M') ∈ TW) (hn : as.length = n) (hd : decode (mC M) pc = .ok (.invokespecial idx, 3)) (hstk : stk = as.reverse ++ xR (some (c, i)) :: st) (h4 : st.length ≤ 4)
    (hm : AMet G l M' d' mc ms (xR (some (c, i)) :: as) σ (fun v σ' => AW G l M (d' + 1) post σ' kk nn (pc + 3) L (v.toList ++ st))) : AW G l M (d' + 1) post σ (kk + mc) (nn + ms) pc L stk := by
  intro p e R s m args below meth co Qc ad H ls locs cells slots C hR hL hst hlo hc hs hQ
  subst hstk
  have hts := C.2.2.2.2.2.1
  have K := C.2.2.2.2.2.2.2.2.1
  have hokr : okv σ (xR (some (c, i))) := hst _ (List.mem_append_right _ List.mem_cons_self)
  have hokst : ∀ v ∈ st, okv σ v := fun v hv => hst v (List.mem_append_right _ (List.mem_cons_of_mem _ hv))
  have hoka : ∀ v ∈ xR (some (c, i)) :: as, okv σ v := ok_c hokr (fun v hv => hst v (List.mem_append_left _ (List.mem_reverse.mpr hv)))
  have hfr := C.2.2.2.2.2.2.2.2.2
  have hroom : mL M' + 11 + 8 + 41 * d' ≤ R.locals := by have := hfr.2; have := hw.2.2.1; omega
  refine aw_goOn (va_runIN (host := host) (Ts := TW) (own := mO M) (y := mY M') (As := as.map (cv ad)) (rest := st.map (cv ad)) (bytes := mC M') (maxL := mL M') (b := ad c i) ⟨C.1, C.2.1, C.2.2.1, C.2.2.2.2.1, hts⟩ (hm ad) ⟨va_cnB (ws' := TW) n hts (mw_good hw) (by rw [hret]) rfl rfl (K.2.1 _ hl.1) (hts _ hw.2.1) hw.2.2.2 ⟨hfr.1, by show 8 + (mL M' + 11) + 41 * d' ≤ R.locals; omega⟩, hname, hts _ hl.2⟩ ⟨pcOf_blind (as := xR (some (c, i)) :: as), fun U hU hW => ⟨rfl, by rw [hU]; exact hR, hoka, KK.warm hW K⟩⟩ rfl (by rw [List.length_map]; exact hn) hL.1 (by rw [List.map_append, List.map_reverse]; rfl) (lv_room (Nat.le_trans (cat_le ad st) (by omega))) hd ⟨by omega, by omega⟩) C hL hokst hlo hc hs hQ (fun st₀ v t ⟨v', ad', σ', e, h2, h3, h4, h5⟩ => ⟨v', ad', σ', Outcome.returned.inj e, h2, h3, h4, h5⟩)
theorem aw_objInit {idx c i d' : Nat} (hw : Cond.methodLink (mO M) idx Lib.objectInit ∈ TW ∧ Cond.instanceMethod Lib.objectInit ∈ TW ∧ Cond.code Lib.objectInit ⟨#[0xb1]⟩ 1 none ∈ TW) (hd : decode (mC M) pc = .ok (.invokespecial idx, 3)) (h4 : st.length ≤ 4) (k : AW G l M (d' + 1) post σ kk nn (pc + 3) L st) : AW G l M (d' + 1) post σ kk nn pc L (xR (some (c, i)) :: st) := by
  intro p e R s m args below meth co Qc ad H ls locs cells slots C hR hL hst hlo hc hs hQ
  have hts := C.2.2.2.2.2.1
  have hfr := C.2.2.2.2.2.2.2.2.2
  refine W.objInit (rest := st.map (cv ad)) C.1 C.2.1 C.2.2.2.2.1 (hts _ hw.1) (hts _ hw.2.1) (hts _ hw.2.2) rfl (by rw [C.2.2.1]; exact hL.1) rfl hd (by have := hfr.1; omega) ?_ (k p e R s m args below meth co Qc ad H ls locs cells slots C hR hL (ok_tl hst) hlo hc hs hQ)
  have h1 := cat_le ad st
  have h2 := lv_room (m := m) (pc := pc) (ls := ls) (rest := []) (st := st.map (cv ad)) (by omega)
  have h3 := hfr.2
  show 2 * (F0 m pc ls _).monitorRoom + _ + 12 ≤ _
  have h5 : (F0 m pc ls ((xR (some (c, i)) :: st).map (cv ad))).monitorRoom = (F0 m pc ls []).monitorRoom := rfl
  rw [h5]
  omega
theorem aw_castN {idx : Nat} (hd : decode (mC M) pc = .ok (.checkcast idx, 3)) (k : AW G l M d post σ kk nn (pc + 3) L (xR none :: st)) : AW G l M d post σ kk nn pc L (xR none :: st) := by
  intro p e R s m args below meth co Qc ad H ls locs cells slots C hR hL hst hlo hc hs hQ
  exact lv_castN C.1 C.2.1 hd (k p e R s m args below meth co Qc ad H ls locs cells slots C hR hL hst hlo hc hs hQ)
theorem aw_cast {idx c i : Nat} (h14 : c < 14 ∨ c = 30) (hw : Cond.classLink (mO M) idx (rcls c) ∈ TW) (hd : decode (mC M) pc = .ok (.checkcast idx, 3)) (k : AW G l M d post σ kk nn (pc + 3) L (xR (some (c, i)) :: st)) : AW G l M d post σ kk nn pc L (xR (some (c, i)) :: st) := by
  intro p e R s m args below meth co Qc ad H ls locs cells slots C hR hL hst hlo hc hs hQ
  exact va_castE C.1 C.2.1 C.2.2.2.2.1 (C.2.2.2.2.2.1 _ hw) (rcv_of hR C.2.2.2.2.2.2.2.2.1 h14 (ok_hd hst _ rfl)) hd (k p e R s m args below meth co Qc ad H ls locs cells slots C hR hL hst hlo hc hs hQ)
theorem aw_ldcS {idx i : Nat} {tx : String} (hw : (mO M, idx, tx, i) ∈ strW) (hi : i < 21) (hd : decode (mC M) pc = .ok (.ldc idx, 2)) (k : AW G l M d post σ kk nn (pc + 2) L (xR (some (30, i)) :: st)) : AW G l M d post σ kk nn pc L st := by
  intro p e R s m args below meth co Qc ad H ls locs cells slots C hR hL hst hlo hc hs hQ
  have hc30 : i < cnt σ 30 := by rw [hR.2.2.2.2.2.2.2.2.2.1]; exact hi
  have e9 := ((hR.2.2.2.1 30 i hc30).2.2 (Or.inr (Or.inr (Or.inl rfl)))).1
  have hv := C.2.2.2.2.2.2.2.2.1.2.2.2.2.2.1 _ hw
  have h := k p e R s m args below meth co Qc ad H ls locs cells slots C hR hL (ok_c (fun n h => by cases h; exact hc30) hst) hlo hc hs hQ
  exact va_ldcS (q := ad 30 i) C.1 C.2.1 C.2.2.2.2.1 (by rw [e9]; exact hv) hd h
theorem aw_ldcwS {idx i : Nat} {tx : String} (hw : (mO M, idx, tx, i) ∈ strW) (hi : i < 21) (hd : decode (mC M) pc = .ok (.ldc_w idx, 3)) (k : AW G l M d post σ kk nn (pc + 3) L (xR (some (30, i)) :: st)) : AW G l M d post σ kk nn pc L st := by
  intro p e R s m args below meth co Qc ad H ls locs cells slots C hR hL hst hlo hc hs hQ
  have hc30 : i < cnt σ 30 := by rw [hR.2.2.2.2.2.2.2.2.2.1]; exact hi
  have e9 := ((hR.2.2.2.1 30 i hc30).2.2 (Or.inr (Or.inr (Or.inl rfl)))).1
  have hv := C.2.2.2.2.2.2.2.2.1.2.2.2.2.2.1 _ hw
  have h := k p e R s m args below meth co Qc ad H ls locs cells slots C hR hL (ok_c (fun n h => by cases h; exact hc30) hst) hlo hc hs hQ
  intro T hT X
  obtain ⟨t, a1, b1⟩ := h T hT X
  exact ⟨t, X.ldcStringW C.1 C.2.2.2.2.1 (text := tx) (a := ad 30 i) hv.1 (by rw [e9]; exact hv.2) (g := F0 m pc ls (st.map (cv ad))) rfl (by rw [C.2.1]; exact hd) t a1, b1⟩
theorem aw_ret {x : Int32} {ty : FieldType} (hd : decode (mC M) pc = .ok (.ireturn, 1)) (hr : mR M = some ty) (hn : narrow ty (.int x) = .int x) (k : post (some (xI x)) σ) : AW G l M d post σ kk nn pc L [xI x] := by
  intro p e R s m args below meth co Qc ad H ls locs cells slots C hR hL hst hlo hc hs hQ
  refine W.widen (k := R.cells) (n := R.slots) (by omega) (by omega) ?_
  exact W.zret C.1 C.2.1 (C.2.2.2.1.trans hr) hn (fun t ht hW => hQ (some (xI x)) ad σ t hW (by rw [ht]; exact hR) Ext.rf (fun w hw => by cases hw; trivial) k) hlo hd C.2.2.2.2.2.2.1
theorem aw_vret (hd : decode (mC M) pc = .ok (.return_, 1)) (hr : mR M = none) (k : post none σ) : AW G l M d post σ kk nn pc L [] := by
  intro p e R s m args below meth co Qc ad H ls locs cells slots C hR hL hst hlo hc hs hQ
  refine W.widen (k := R.cells) (n := R.slots) (by omega) (by omega) ?_
  exact W.vret C.1 C.2.1 (C.2.2.2.1.trans hr) (fun t ht hW => hQ none ad σ t hW (by rw [ht]; exact hR) Ext.rf (fun w hw => by cases hw) k) hlo hd C.2.2.2.2.2.2.1
theorem aw_aret {r : Option Nm} {rt : FieldType} (hd : decode (mC M) pc = .ok (.areturn, 1)) (hr : mR M = some rt) (hrt : (∃ n, rt = .object n) ∨ ∃ t, rt = .array t) (k : post (some (xR r)) σ) : AW G l M d post σ kk nn pc L [xR r] := by
  intro p e R s m args below meth co Qc ad H ls locs cells slots C hR hL hst hlo hc hs hQ
  refine W.widen (k := R.cells) (n := R.slots) (by omega) (by omega) ?_
  exact W.aret (v := cv ad (xR r)) C.1 C.2.1 (C.2.2.2.1.trans hr) hrt (by cases r with | none => exact Or.inl rfl | some n => exact Or.inr ⟨_, rfl⟩) (fun t ht hW => hQ (some (xR r)) ad σ t hW (by rw [ht]; exact hR) Ext.rf (fun w hw => by cases hw; exact ok_hd hst) k) hlo hd C.2.2.2.2.2.2.1
theorem aw_lret {x : Int64} (hd : decode (mC M) pc = .ok (.lreturn, 1)) (hr : mR M = some .long) (k : post (some (xL x)) σ) : AW G l M d post σ kk nn pc L [xL x] := by
  intro p e R s m args below meth co Qc ad H ls locs cells slots C hR hL hst hlo hc hs hQ
  refine W.widen (k := R.cells) (n := R.slots) (by omega) (by omega) ?_
  exact W.lret C.1 C.2.1 (C.2.2.2.1.trans hr) (fun t ht hW => hQ (some (xL x)) ad σ t hW (by rw [ht]; exact hR) Ext.rf (fun w hw => by cases hw; trivial) k) hlo hd C.2.2.2.2.2.2.1
/-- names apart are addresses apart: for references of which one is no fixed one -/
def acmpOK (r q : Option Nm) : Prop := ∀ n m, r = some n → q = some m → ¬ fixd n.1 n.2 ∨ ¬ fixd m.1 m.2 ∨ n = m ∨ n.1 = m.1
theorem acmp_iff {ad : Nat → Nat → Nat} {H : Heap} {r q : Option Nm} (hR : Rep G ad σ H) (h1 : okn σ r) (h2 : okn σ q) (h : ∀ n m, r = some n → q = some m → (¬ fixd n.1 n.2 ∧ m.1 ≠ 31) ∨ (¬ fixd m.1 m.2 ∧ n.1 ≠ 31) ∨ n = m) : (r.map (adn ad) = q.map (adn ad)) ↔ r = q := by
  refine ⟨fun e => ?_, fun e => by rw [e]⟩
  cases r with
  | none => cases q with
    | none => rfl
    | some m => cases e
  | some n => cases q with
    | none => cases e
    | some m =>
      have e' : ad n.1 n.2 = ad m.1 m.2 := Option.some.inj e
      rcases h n m rfl rfl with g | g | g
      · have := hR.2.2.1 n.1 n.2 m.1 m.2 (h1 n rfl) (h2 m rfl) g.1 g.2 e'
        exact congrArg some (Prod.ext this.1 this.2)
      · have := hR.2.2.1 m.1 m.2 n.1 n.2 (h2 m rfl) (h1 n rfl) g.1 g.2 e'.symm
        exact congrArg some (Prod.ext this.1.symm this.2.symm)
      · rw [g]
theorem aw_acmp_eq {r q : Option Nm} {off : Int} {tgt : Nat} (hd : decode (mC M) pc = .ok (.if_acmp .eq off, 3)) (ht : (pc : Int) + off = (tgt : Int)) (h : ∀ n m, r = some n → q = some m → (¬ fixd n.1 n.2 ∧ m.1 ≠ 31) ∨ (¬ fixd m.1 m.2 ∧ n.1 ≠ 31) ∨ n = m) (kt : r = q → AW G l M d post σ kk nn tgt L st) (kf : ¬ r = q → AW G l M d post σ kk nn (pc + 3) L st) : AW G l M d post σ kk nn pc L (xR q :: xR r :: st) := by
  intro p e R s m args below meth co Qc ad H ls locs cells slots C hR hL hst hlo hc hs hQ
  have hi := acmp_iff hR (ok_hd (ok_tl hst)) (ok_hd hst) h
  exact lv_acmp_eq C.1 C.2.1 hd ht (fun e' => kt (hi.mp e') p e R s m args below meth co Qc ad H ls locs cells slots C hR hL (ok_tl (ok_tl hst)) hlo hc hs hQ) (fun e' => kf (fun x => e' (hi.mpr x)) p e R s m args below meth co Qc ad H ls locs cells slots C hR hL (ok_tl (ok_tl hst)) hlo hc hs hQ)
theorem aw_acmp_ne {r q : Option Nm} {off : Int} {tgt : Nat} (hd : decode (mC M) pc = .ok (.if_acmp .ne off, 3)) (ht : (pc : Int) + off = (tgt : Int)) (h : ∀ n m, r = some n → q = some m → (¬ fixd n.1 n.2 ∧ m.1 ≠ 31) ∨ (¬ fixd m.1 m.2 ∧ n.1 ≠ 31) ∨ n = m) (kt : ¬ r = q → AW G l M d post σ kk nn tgt L st) (kf : r = q → AW G l M d post σ kk nn (pc + 3) L st) : AW G l M d post σ kk nn pc L (xR q :: xR r :: st) := by
  intro p e R s m args below meth co Qc ad H ls locs cells slots C hR hL hst hlo hc hs hQ
  have hi := acmp_iff hR (ok_hd (ok_tl hst)) (ok_hd hst) h
  exact lv_acmp_ne C.1 C.2.1 hd ht (fun e' => kt (fun x => e' (hi.mpr x)) p e R s m args below meth co Qc ad H ls locs cells slots C hR hL (ok_tl (ok_tl hst)) hlo hc hs hQ) (fun e' => kf (hi.mp e') p e R s m args below meth co Qc ad H ls locs cells slots C hR hL (ok_tl (ok_tl hst)) hlo hc hs hQ)
theorem gb_S {ad : Nat → Nat → Nat} {H : Heap} (hR : Rep G ad σ H) : va_S (gA0 G) (gH G) H [] ∨ True := Or.inr trivial
/-- the static of ArrayList that holds the empty array -/
theorem aw_getsE {idx : Nat} (hw : Cond.fieldLink (mO M) idx "java/util/ArrayList" "DEFAULTCAPACITY_EMPTY_ELEMENTDATA" "[Ljava/lang/Object;" ∈ TW) (hd : decode (mC M) pc = .ok (.getstatic idx, 3)) (k : AW G l M d post σ kk nn (pc + 3) L (xR (some (23, 0)) :: st)) : AW G l M d post σ kk nn pc L st := by
  intro p e R s m args below meth co Qc ad H ls locs cells slots C hR hL hst hlo hc hs hQ
  have K := C.2.2.2.2.2.2.2.2.1
  have h0 : 0 < cnt σ 23 := hR.2.2.2.2.2.2.2.2.1
  have e1 := ((hR.2.2.2.1 23 0 h0).2.2 (Or.inl ⟨rfl, rfl⟩)).1
  obtain ⟨cf, kf, fi, f, a, cell, h1, h2, h3, h4, h5, h6, h7, h8⟩ := K.2.2.2.2.2.2.1
  have h := k p e R s m args below meth co Qc ad H ls locs cells slots C hR hL (ok_c (fun n h => by cases h; exact h0) hst) hlo hc hs hQ
  refine W.gets (v := .ref (ad 23 0)) C.1 C.2.1 C.2.2.2.2.1 (C.2.2.2.2.2.1 _ hw) h1 h2 h3 h4 (by rw [hR.2.2.2.2.1.2 a (Nat.not_le.mp h8)]; exact h5) (fun e => by rw [e] at h6; cases h6) (by rw [e1]; exact h7) rfl hd h
/-- String.COMPACT_STRINGS -/
theorem aw_getsC {idx : Nat} (hw : Cond.fieldLink (mO M) idx "java/lang/String" "COMPACT_STRINGS" "Z" ∈ TW) (hd : decode (mC M) pc = .ok (.getstatic idx, 3)) (k : AW G l M d post σ kk nn (pc + 3) L (xI 1 :: st)) : AW G l M d post σ kk nn pc L st := by
  intro p e R s m args below meth co Qc ad H ls locs cells slots C hR hL hst hlo hc hs hQ
  have K := C.2.2.2.2.2.2.2.2.1
  obtain ⟨cf, kf, fi, f, a, cell, h1, h2, h3, h4, h5, h6, h7, h8⟩ := K.2.2.2.2.2.2.2.1
  have h := k p e R s m args below meth co Qc ad H ls locs cells slots C hR hL (ok_c ok_t hst) hlo hc hs hQ
  exact W.gets (v := .int 1) C.1 C.2.1 C.2.2.2.2.1 (C.2.2.2.2.2.1 _ hw) h1 h2 h3 h4 (by rw [hR.2.2.2.2.1.2 a (Nat.not_le.mp h8)]; exact h5) (fun e => by rw [e] at h6; cases h6) h7 rfl hd h
/-- a String constant's fields -/
theorem aw_getCoder {i idx : Nat} (hw : Cond.fieldLink (mO M) idx "java/lang/String" "coder" "B" ∈ TW) (hd : decode (mC M) pc = .ok (.getfield idx, 3)) (k : AW G l M d post σ kk nn (pc + 3) L (xI 0 :: st)) : AW G l M d post σ kk nn pc L (xR (some (30, i)) :: st) := by
  intro p e R s m args below meth co Qc ad H ls locs cells slots C hR hL hst hlo hc hs hQ
  have K := C.2.2.2.2.2.2.2.2.1
  have hok : i < cnt σ 30 := ok_hd hst _ rfl
  obtain ⟨e1, e2⟩ := (hR.2.2.2.1 30 i hok).2.2 (Or.inr (Or.inr (Or.inl rfl)))
  have e2 := e2 (by decide)
  have hi : i < 21 := by rw [← hR.2.2.2.2.2.2.2.2.2.1]; exact hok
  obtain ⟨cf, kf, fi, f, cell, h1, h2, h3, h4, h5, h6⟩ := (K.2.2.2.2.1 i hi).2.2.1
  have h := k p e R s m args below meth co Qc ad H ls locs cells slots C hR hL (ok_c ok_t (ok_tl hst)) hlo hc hs hQ
  exact W.getf (v := .int 0) C.1 C.2.1 C.2.2.2.2.1 (C.2.2.2.2.2.1 _ hw) h1 h2 (by show H[ad 30 i]? = some cell; rw [hR.2.2.2.2.1.2 _ e2, e1]; exact h3) h4 h5 rfl rfl hd h
/-- a String constant's bytes: two instructions' worth of them are read by their own rows, in the machine's words -/
theorem str_bytes {ad : Nat → Nat → Nat} {H : Heap} {s : State} {i : Nat} (hR : Rep G ad σ H) (K : KK G s) (hok : i < cnt σ 30) : i < 21 ∧ va_OF "java/lang/String" "value" "[B" (.ref (gV G i)) (ad 30 i) (gA0 G) s H ∧ va_T .byte (gV G i) (jsB.getD i []).length (fun j => .int ((jsB.getD i []).getD j 0)) (gA0 G) s H := by
  obtain ⟨e1, e2⟩ := (hR.2.2.2.1 30 i hok).2.2 (Or.inr (Or.inr (Or.inl rfl)))
  have e2 := e2 (by decide)
  have hi : i < 21 := by rw [← hR.2.2.2.2.2.2.2.2.2.1]; exact hok
  obtain ⟨-, -, -, h3, h4⟩ := K.2.2.2.2.1 i hi
  rw [← e1] at h3
  have kept : ∀ a : Nat, a < (gH G).size → ¬ gA0 G a → H[a]? = (gH G)[a]? := fun a _ h => hR.2.2.2.2.1.2 a (Nat.not_le.mp h)
  exact ⟨hi, h3.kept kept, h4.kept kept⟩
end ROWS3

