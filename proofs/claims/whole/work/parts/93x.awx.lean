/-! Walks of a method that may throw the class's exception, or has a handler for it. -/
def nse : String := "java/util/NoSuchElementException"
/-- what is owed at the end: px at a throw; tb of the method's table of handlers -/
def XQ (G : GG) (post : Option AVal → AS → Prop) (px : AS → Prop) (tb : Code → Prop) (s : State) (args : Array Value) (c : Code) (Qc : (Array Value → State → Outcome → State → Prop) × (String → State → State → Prop)) (σ : AS) (ad : Nat → Nat → Nat) : Prop :=
  (∀ (v : Option AVal) (ad' : Nat → Nat → Nat) (σ' : AS) (t : State), s.WarmedH t.vm → Rep G ad' σ' t.heap → Ext σ ad σ' ad' → (∀ w ∈ v, okv σ' w) → post v σ' → Qc.1 args s (.returned (v.map (cv ad'))) t) ∧
  (∀ (ad' : Nat → Nat → Nat) (σ' : AS) (t : State), s.vm.Alike t.vm → Rep G ad' σ' t.heap → Ext σ ad σ' ad' → px σ' → Qc.2 nse s t) ∧ tb c
theorem XQ.ext {G : GG} {post : Option AVal → AS → Prop} {px : AS → Prop} {tb : Code → Prop} {s : State} {args : Array Value} {c : Code} {Qc : (Array Value → State → Outcome → State → Prop) × (String → State → State → Prop)} {σ σ1 : AS} {ad ad1 : Nat → Nat → Nat} (h : XQ G post px tb s args c Qc σ ad) (hE : Ext σ ad σ1 ad1) : XQ G post px tb s args c Qc σ1 ad1 := ⟨fun v ad2 σ2 t hW hR2 hE2 => h.1 v ad2 σ2 t hW hR2 (hE.tr hE2), fun ad2 σ2 t hW hR2 hE2 => h.2.1 ad2 σ2 t hW hR2 (hE.tr hE2), h.2.2⟩
def AWX (G : GG) (l : Launch) (M : Mth) (d : Nat) (post : Option AVal → AS → Prop) (px : AS → Prop) (tb : Code → Prop) (σ : AS) (kk nn pc : Nat) (L : List (Option AVal)) (st : List AVal) : Prop :=
  ∀ (p : Program) (e : Env) (R : Room) (s : State) (m : MethodId) (args : Array Value) (below : List Frame) (meth : Method) (c : Code) (Qc : (Array Value → State → Outcome → State → Prop) × (String → State → State → Prop)) (ad : Nat → Nat → Nat) (H : Heap) (ls : Array Slot) (locs : List Loc) (cells slots : Nat),
    Cx G M d p R s m args meth c → Rep G ad σ H → LR σ ad (mL M) L ls → (∀ v ∈ st, okv σ v) → (∀ q ∈ locs, gB G ≤ q.base) → cells + kk ≤ R.cells → slots + nn ≤ R.slots → XQ G post px tb s args c Qc σ ad →
    W p l e R s m args below meth c H locs cells slots (vx_MQ below Qc.1 Qc.2 args s R.cells R.slots (gA0 G)) (F0 m pc ls (st.map (cv ad)))
/-- the contract of a method that may throw -/
def AMetX (G : GG) (l : Launch) (M : Mth) (d mc ms : Nat) (as : List AVal) (σ : AS) (post : Option AVal → AS → Prop) (px : AS → Prop) : Prop :=
  ∀ ad : Nat → Nat → Nat, vx_Met l (mY M) (.code (mY M) (mC M) (mL M) (mR M) :: TW) { frames := d, cells := mc, slots := ms, locals := 41 * d } (fun v U => v = (as.map (cv ad)).toArray ∧ Rep G ad σ U.heap ∧ (∀ v ∈ as, okv σ v) ∧ KK G U) (fun _ st o t => ∃ (v : Option AVal) (ad' : Nat → Nat → Nat) (σ' : AS), o = .returned (v.map (cv ad')) ∧ Rep G ad' σ' t.heap ∧ Ext σ ad σ' ad' ∧ (∀ w ∈ v, okv σ' w) ∧ post v σ') (fun E _ t => E = nse ∧ ∃ (ad' : Nat → Nat → Nat) (σ' : AS), Rep G ad' σ' t.heap ∧ Ext σ ad σ' ad' ∧ px σ') mc ms (gA0 G)
/-- the contract of a method with a table of handlers -/
def AMetW (G : GG) (l : Launch) (M : Mth) (hh : List (Nat × Nat × Nat × Nat)) (d mc ms : Nat) (as : List AVal) (σ : AS) (post : Option AVal → AS → Prop) : Prop :=
  ∀ ad : Nat → Nat → Nat, Met l (mY M) (.codeWith (mY M) (mC M) (mL M) (mR M) hh :: TW) { frames := d, cells := mc, slots := ms, locals := 41 * d } (fun v U => v = (as.map (cv ad)).toArray ∧ Rep G ad σ U.heap ∧ (∀ v ∈ as, okv σ v) ∧ KK G U) (fun _ st o t => ∃ (v : Option AVal) (ad' : Nat → Nat → Nat) (σ' : AS), o = .returned (v.map (cv ad')) ∧ Rep G ad' σ' t.heap ∧ Ext σ ad σ' ad' ∧ (∀ w ∈ v, okv σ' w) ∧ post v σ') mc ms (gA0 G)
theorem AMetW.mono {G : GG} {l : Launch} {M : Mth} {hh : List (Nat × Nat × Nat × Nat)} {d mc ms : Nat} {as : List AVal} {σ : AS} {post post' : Option AVal → AS → Prop} (h : AMetW G l M hh d mc ms as σ post) (hp : ∀ v σ', post v σ' → post' v σ') : AMetW G l M hh d mc ms as σ post' := fun ad => MetFree.mono (h ad) (fun _ _ h => h) (fun _ _ _ _ _ h => h) (fun _ _ _ _ _ ⟨⟨v, ad', σ', h1, h2, h3, h4, h5⟩, hL⟩ => ⟨⟨v, ad', σ', h1, h2, h3, h4, hp v σ' h5⟩, hL⟩)
section AX
variable {G : GG} {l : Launch} {M : Mth} {d : Nat} {post : Option AVal → AS → Prop} {px : AS → Prop} {tb : Code → Prop} {σ : AS} {kk nn pc : Nat} {L : List (Option AVal)} {st : List AVal}
set_option maxHeartbeats 1000000 in
theorem AMetX.of {mc ms : Nat} {as : List AVal} (hy : plainName (mY M).cls = true) (hl : (largs as).length ≤ mL M) (h : AWX G l M d post px (fun c => ∀ x ∈ c.exceptionTable.toList, False) σ mc ms 0 (lpad (mL M) (largs as)) []) : AMetX G l M d mc ms as σ post px := by
  intro ad
  refine vx_ofW (cc := mC M) (maxL := mL M) (ret := mR M) hy rfl ?_
  intro p e s m args below meth c s₁ B hml ht hv
  obtain ⟨rfl, hR, hok, hK⟩ := hv
  have hts : ∀ w ∈ (Cond.code (mY M) (mC M) (mL M) (mR M) :: TW), w.before ((as.map (cv ad)).toArray) s = true := atoms_spec B.pre
  have hown : s.vm.findClass (mY M).cls = some m.cls := findClass_of_methodNamed B.named
  rw [lg_entry_eq]
  have hle := lv_entry (as.map (cv ad)) (n := mL M) (by rw [llen_largs]; exact hl)
  refine h p e _ s m _ below meth c (_, _) ad s.heap _ [] 0 0 ⟨B.exec, B.bytes, hml, B.returns, hown, fun w hw => hts w (List.mem_cons_of_mem _ hw), B.notSynchronized, (name_of_methodNamed B.named B.method).1, hK, Nat.le_refl _, Nat.le_refl _⟩ hR ⟨hle.1, hle.2.1, fun i v hi => ?_⟩ (fun _ h => by cases h) (fun _ h => by cases h) (by show 0 + mc ≤ mc; omega) (by show 0 + ms ≤ ms; omega) ⟨fun v ad' σ' t hW hR' hE hok' hp => ⟨v, ad', σ', rfl, hR', hE, hok', hp⟩, fun ad' σ' t hA hR' hE hp => ⟨rfl, ad', σ', hR', hE, hp⟩, ht⟩
  obtain ⟨a, b⟩ := lget_largs ad as i v (lget_lpad _ _ _ _ hi)
  refine ⟨?_, hok v b⟩
  rw [List.getElem?_toArray, List.getElem?_append_left (List.getElem?_eq_some_iff.mp a).1]
  exact a
theorem ax_aload_n {j : Fin 4} {i : Nat} {r : Option Nm} (hd : decode (mC M) pc = .ok (.aload_n j, 1)) (hi : (j : Nat) = i) (hl : lget L i = some (xR r)) (k : AWX G l M d post px tb σ kk nn (pc + 1) L (xR r :: st)) : AWX G l M d post px tb σ kk nn pc L st := by
  intro p e R s m args below meth c Qc ad H ls locs cells slots C hR hL hst hlo hc hs hQ
  have k2 := k p e R s m args below meth c Qc ad H ls locs cells slots C hR hL (ok_c (hL.2.2 _ _ hl).2 hst) hlo hc hs hQ
  cases r with
  | none => exact lv_aload_nN C.1 C.2.1 hd hi (hL.2.2 _ _ hl).1 k2
  | some n => exact lv_aload_n C.1 C.2.1 hd hi (hL.2.2 _ _ hl).1 k2
theorem ax_iload_n {j : Fin 4} {i : Nat} {x : Int32} (hd : decode (mC M) pc = .ok (.iload_n j, 1)) (hi : (j : Nat) = i) (hl : lget L i = some (xI x)) (k : AWX G l M d post px tb σ kk nn (pc + 1) L (xI x :: st)) : AWX G l M d post px tb σ kk nn pc L st := by
  intro p e R s m args below meth c Qc ad H ls locs cells slots C hR hL hst hlo hc hs hQ
  exact lv_iload_n C.1 C.2.1 hd hi (hL.2.2 _ _ hl).1 (k p e R s m args below meth c Qc ad H ls locs cells slots C hR hL (ok_c ok_t hst) hlo hc hs hQ)
theorem ax_iconst {n : Int} {x : Int32} (hd : decode (mC M) pc = .ok (.iconst n, 1)) (hv : Int32.ofInt n = x) (k : AWX G l M d post px tb σ kk nn (pc + 1) L (xI x :: st)) : AWX G l M d post px tb σ kk nn pc L st := by
  intro p e R s m args below meth c Qc ad H ls locs cells slots C hR hL hst hlo hc hs hQ
  exact lv_iconst C.1 C.2.1 hd hv (k p e R s m args below meth c Qc ad H ls locs cells slots C hR hL (ok_c ok_t hst) hlo hc hs hQ)
theorem ax_aload {i : Nat} {r : Option Nm} (hd : decode (mC M) pc = .ok (.aload i, 2)) (hl : lget L i = some (xR r)) (k : AWX G l M d post px tb σ kk nn (pc + 2) L (xR r :: st)) : AWX G l M d post px tb σ kk nn pc L st := by
  intro p e R s m args below meth c Qc ad H ls locs cells slots C hR hL hst hlo hc hs hQ
  have k2 := k p e R s m args below meth c Qc ad H ls locs cells slots C hR hL (ok_c (hL.2.2 _ _ hl).2 hst) hlo hc hs hQ
  cases r with
  | none => exact lv_aloadN C.1 C.2.1 hd (hL.2.2 _ _ hl).1 k2
  | some n => exact lv_aload C.1 C.2.1 hd (hL.2.2 _ _ hl).1 k2
theorem ax_i2l {x : Int32} {v : Int64} (hd : decode (mC M) pc = .ok (.i2l, 1)) (hv : x.toInt64 = v) (k : AWX G l M d post px tb σ kk nn (pc + 1) L (xL v :: st)) : AWX G l M d post px tb σ kk nn pc L (xI x :: st) := by
  intro p e R s m args below meth c Qc ad H ls locs cells slots C hR hL hst hlo hc hs hQ
  exact lv_i2l C.1 C.2.1 hd hv (k p e R s m args below meth c Qc ad H ls locs cells slots C hR hL (ok_c ok_tL (ok_tl hst)) hlo hc hs hQ)
theorem ax_goto {off : Int} {tgt : Nat} (hd : decode (mC M) pc = .ok (.goto off, 3)) (ht : (pc : Int) + off = (tgt : Int)) (k : AWX G l M d post px tb σ kk nn tgt L st) : AWX G l M d post px tb σ kk nn pc L st := by
  intro p e R s m args below meth c Qc ad H ls locs cells slots C hR hL hst hlo hc hs hQ
  exact lv_goto C.1 C.2.1 hd ht (k p e R s m args below meth c Qc ad H ls locs cells slots C hR hL hst hlo hc hs hQ)
theorem ax_ifnull {r : Option Nm} {off : Int} {tgt : Nat} (hd : decode (mC M) pc = .ok (.ifnull off, 3)) (ht : (pc : Int) + off = (tgt : Int)) (kt : r = none → AWX G l M d post px tb σ kk nn tgt L st) (kf : ∀ n, r = some n → AWX G l M d post px tb σ kk nn (pc + 3) L st) : AWX G l M d post px tb σ kk nn pc L (xR r :: st) := by
  intro p e R s m args below meth c Qc ad H ls locs cells slots C hR hL hst hlo hc hs hQ
  cases r with
  | none => exact lv_ifnullN C.1 C.2.1 hd ht (kt rfl p e R s m args below meth c Qc ad H ls locs cells slots C hR hL (ok_tl hst) hlo hc hs hQ)
  | some n => exact lv_ifnull C.1 C.2.1 hd (kf n rfl p e R s m args below meth c Qc ad H ls locs cells slots C hR hL (ok_tl hst) hlo hc hs hQ)
theorem ax_if_eq {x : Int32} {off : Int} {tgt : Nat} (hd : decode (mC M) pc = .ok (.ifCond .eq off, 3)) (ht : (pc : Int) + off = (tgt : Int)) (kt : x = 0 → AWX G l M d post px tb σ kk nn tgt L st) (kf : ¬ x = 0 → AWX G l M d post px tb σ kk nn (pc + 3) L st) : AWX G l M d post px tb σ kk nn pc L (xI x :: st) := by
  intro p e R s m args below meth c Qc ad H ls locs cells slots C hR hL hst hlo hc hs hQ
  exact lv_if_eq C.1 C.2.1 hd ht (fun h => kt h p e R s m args below meth c Qc ad H ls locs cells slots C hR hL (ok_tl hst) hlo hc hs hQ) (fun h => kf h p e R s m args below meth c Qc ad H ls locs cells slots C hR hL (ok_tl hst) hlo hc hs hQ)
theorem ax_if_ne {x : Int32} {off : Int} {tgt : Nat} (hd : decode (mC M) pc = .ok (.ifCond .ne off, 3)) (ht : (pc : Int) + off = (tgt : Int)) (kt : ¬ x = 0 → AWX G l M d post px tb σ kk nn tgt L st) (kf : x = 0 → AWX G l M d post px tb σ kk nn (pc + 3) L st) : AWX G l M d post px tb σ kk nn pc L (xI x :: st) := by
  intro p e R s m args below meth c Qc ad H ls locs cells slots C hR hL hst hlo hc hs hQ
  exact lv_if_ne C.1 C.2.1 hd ht (fun h => kt h p e R s m args below meth c Qc ad H ls locs cells slots C hR hL (ok_tl hst) hlo hc hs hQ) (fun h => kf h p e R s m args below meth c Qc ad H ls locs cells slots C hR hL (ok_tl hst) hlo hc hs hQ)
theorem ax_get {c f i idx : Nat} (hf : FL M c f idx) (hd : decode (mC M) pc = .ok (.getfield idx, 3)) {w : AVal} (hw : w = if isRf c f = true then xR (gR σ c f i) else xI (gI σ c f i)) (k : AWX G l M d post px tb σ kk nn (pc + 3) L (w :: st)) : AWX G l M d post px tb σ kk nn pc L (xR (some (c, i)) :: st) := by
  intro p e R s m args below meth co Qc ad H ls locs cells slots C hR hL hst hlo hc hs hQ
  have hi : i < cnt σ c := ok_hd hst _ rfl
  obtain ⟨r, ref, hr, hk, hlink, hsame⟩ := hf
  obtain ⟨cell, q1, q2, q3, q4⟩ := hR.1 c i hi r hr
  obtain ⟨hS, hfc, kC, hkC, hkind⟩ := C.2.2.2.2.2.2.2.2.1.1.1 c _ hr
  obtain ⟨cf, kf, fi, fd, hfd, hsl⟩ := hS f hk
  have hts := C.2.2.2.2.2.1
  have hsame' : s.fieldFound? ref (r.2.1 f).2.1 (r.2.1 f).2.2.1 = some (cf, kf, fi, fd) := by
    rcases hsame with e | e
    · rw [← e]; exact hfd
    · exact u_same (hts _ e) _ hfd
  have hv : cv ad w = fv ad σ c i f := by
    rw [hw]
    unfold fv
    split <;> rfl
  refine W.getf C.1 C.2.1 C.2.2.2.2.1 (hts _ hlink) hsame' (u_facts hfc hkC (u_lays hts (cls_in hr) hk) hfd).1 q1 (by rw [q3]; exact fun h => by cases h) (v := cv ad w) (by rw [hsl, q4 f hk, hv]) rfl rfl hd ?_
  refine k p e R s m args below meth co Qc ad H ls locs cells slots C hR hL (ok_c ?_ (ok_tl hst)) hlo hc hs hQ
  rw [hw]
  split
  · exact hR.2.2.2.2.2.1 c f i hi
  · trivial
theorem ax_getR {c f i idx : Nat} (hf : FL M c f idx) (hr : isRf c f = true) (hd : decode (mC M) pc = .ok (.getfield idx, 3)) (k : AWX G l M d post px tb σ kk nn (pc + 3) L (xR (gR σ c f i) :: st)) : AWX G l M d post px tb σ kk nn pc L (xR (some (c, i)) :: st) := ax_get hf hd (by rw [hr]; rfl) k
theorem ax_getRv {c f i idx : Nat} {r : Option Nm} (hf : FL M c f idx) (hr : isRf c f = true) (hx : gR σ c f i = r) (hd : decode (mC M) pc = .ok (.getfield idx, 3)) (k : AWX G l M d post px tb σ kk nn (pc + 3) L (xR r :: st)) : AWX G l M d post px tb σ kk nn pc L (xR (some (c, i)) :: st) := ax_getR hf hr hd (by rw [hx]; exact k)
theorem ax_last {i : Nat} {j : Int32} {x : Int64} (hd : decode (mC M) pc = .ok (.lastore, 1)) (hin : vp_in j (gN σ 24 i)) (k : AWX G l M d post px tb (sL σ 24 i j.toNatClampNeg x) kk nn (pc + 1) L st) : AWX G l M d post px tb σ kk nn pc L (xL x :: xI j :: xR (some (24, i)) :: st) := by
  intro p e R s m args below meth co Qc ad H ls locs cells slots C hR hL hst hlo hc hs hQ
  have hi : i < cnt σ 24 := ok_hd (ok_tl (ok_tl hst)) _ rfl
  have hcell := hR.2.1 24 i (by decide) (by decide) hi
  rw [acell_l ad] at hcell
  refine W.last C.1 C.2.1 hcell (C.2.2.2.2.2.2.2.2.1.ty 4 rfl _ _) (fun h => by cases h) (by rw [arrV_size]; exact hin) rfl rfl hd (fun H' e1 z oq => ?_)
  have hE : Ext σ ad (sL σ 24 i j.toNatClampNeg x) ad := fun _ _ h => ⟨h, rfl⟩
  have hnf : ¬ fixd 24 i := by unfold fixd; omega
  refine k p e R s m args below meth co Qc ad H' ls _ cells slots C (rep_ast hR hi (by decide) hnf z oq ?_ ⟨rfl, rfl, rfl, rfl⟩ ?_ ?_) (hL.ext hE) (fun v hv => ext_okv hE (ok_tl (ok_tl (ok_tl hst)) v hv)) (fun q hq => ?_) hc hs (hQ.ext hE)
  · rw [e1, acell_l ad]
    have ef : updV (fun j => Value.long (gL σ 24 i j)) j.toNatClampNeg (.long x) = (fun j2 => Value.long (gL (sL σ 24 i j.toNatClampNeg x) 24 i j2)) := by
      funext q
      rw [gL_sL]
      unfold updV
      by_cases hq : q = j.toNatClampNeg
      · rw [if_pos hq, if_pos ⟨rfl, rfl, hq⟩]
      · rw [if_neg hq, if_neg (fun h => hq h.2.2)]
    exact congrArg some ((arrV_store _ _ _ _ (.long x)).trans (congrArg (fun f => arrV _ _ f) ef))
  · intro x y hne
    exact ⟨fun _ => rfl, fun _ => rfl, fun j2 => by rw [gL_sL, if_neg (fun h => hne ⟨h.1, h.2.1⟩)]⟩
  · exact fun j2 => hR.2.2.2.2.2.2.1 24 i j2 hi
  · rcases List.mem_append.mp hq with h | h
    · exact hlo q h
    · rw [List.mem_singleton.mp h]
      exact (hR.2.2.2.1 24 i hi).2.1 hnf
theorem ax_goOn {p : Program} {e : Env} {R : Room} {s : State} {m : MethodId} {args : Array Value} {below : List Frame} {meth : Method} {co : Code} {Qc : (Array Value → State → Outcome → State → Prop) × (String → State → State → Prop)} {ad : Nat → Nat → Nat} {H : Heap} {ls : Array Slot} {locs : List Loc} {cells slots mc ms : Nat} {stk : List Value} {Qa : State → Outcome → State → Prop}
    (hr : va_Run p l e R s m args below meth co H locs cells slots mc ms (F0 m pc ls stk) (st.map (cv ad)) Qa (gA0 G)) (C : Cx G M d p R s m args meth co) (hL : LR σ ad (mL M) L ls) (hst : ∀ v ∈ st, okv σ v) (hlo : ∀ q ∈ locs, gB G ≤ q.base) (hc : cells + (kk + mc) ≤ R.cells) (hs : slots + (nn + ms) ≤ R.slots)
    (hQ : XQ G post px tb s args co Qc σ ad)
    (hQa : ∀ (st₀ : State) (v : Option Value) (t : State), Qa st₀ (.returned v) t → ∃ (v' : Option AVal) (ad' : Nat → Nat → Nat) (σ' : AS), v = v'.map (cv ad') ∧ Rep G ad' σ' t.heap ∧ Ext σ ad σ' ad' ∧ (∀ w ∈ v', okv σ' w) ∧ AWX G l M d post px tb σ' kk nn (pc + 3) L (v'.toList ++ st)) :
    W p l e R s m args below meth co H locs cells slots (vx_MQ below Qc.1 Qc.2 args s R.cells R.slots (gA0 G)) (F0 m pc ls stk) := by
  intro T hT X
  obtain ⟨v, st₀, t, T', Lo, h0, X', hLo, e1, e2, hqa, hgo⟩ := hr T hT X
  obtain ⟨v', ad', σ', rfl, hR', hE, hok, k⟩ := hQa st₀ v t hqa
  have h := k p e R s m args below meth co Qc ad' T'.heap ls (locs ++ Lo) (cells + mc) (slots + ms) C (by rw [e1]; exact hR') (hL.ext hE) (fun w hw => by
      rcases List.mem_append.mp hw with h | h
      · exact hok w (Option.mem_toList.mp h)
      · exact ext_okv hE (hst w h)) (fun q hq => by
      rcases List.mem_append.mp hq with h | h
      · exact hlo q h
      · exact hLo q h) (by omega) (by omega) (hQ.ext hE)
  rw [List.map_append, ext_cvs hE hst, ← toL_map] at h
  obtain ⟨t2, a1, b1⟩ := h T' rfl X'
  exact ⟨t2, hgo t2 a1, b1⟩
theorem ax_callV {M' : Mth} {idx n d' mc ms c i : Nat} {as stk : List AVal} (hw : MW M' n) (hcls : rcls c = (mY M').cls ∧ (c < 14 ∨ c = 30)) (hl : Cond.methodLink (mO M) idx (mY M') ∈ TW ∧ Cond.instanceMethod (mY M') ∈ TW ∧ Cond.selects (mY M').cls (mY M') (mY M') ∈ TW) (hn : as.length = n) (hd : decode (mC M) pc = .ok (.invokevirtual idx, 3)) (hstk : stk = as.reverse ++ xR (some (c, i)) :: st) (h4 : st.length ≤ 4)
    (hm : AMet G l M' d' mc ms (xR (some (c, i)) :: as) σ (fun v σ' => AWX G l M (d' + 1) post px tb σ' kk nn (pc + 3) L (v.toList ++ st))) : AWX G l M (d' + 1) post px tb σ (kk + mc) (nn + ms) pc L stk := by
  intro p e R s m args below meth co Qc ad H ls locs cells slots C hR hL hst hlo hc hs hQ
  subst hstk
  have hts := C.2.2.2.2.2.1
  have K := C.2.2.2.2.2.2.2.2.1
  have hokr : okv σ (xR (some (c, i))) := hst _ (List.mem_append_right _ List.mem_cons_self)
  have hokst : ∀ v ∈ st, okv σ v := fun v hv => hst v (List.mem_append_right _ (List.mem_cons_of_mem _ hv))
  have hoka : ∀ v ∈ xR (some (c, i)) :: as, okv σ v := ok_c hokr (fun v hv => hst v (List.mem_append_left _ (List.mem_reverse.mpr hv)))
  have hfr := C.2.2.2.2.2.2.2.2.2
  refine ax_goOn (va_runV (Ts := TW) (own := mO M) (C := (mY M').cls) (y := mY M') (b := ad c i) (As := as.map (cv ad)) (rest := st.map (cv ad)) ⟨C.1, C.2.1, C.2.2.1, C.2.2.2.2.1, hts⟩ (hm ad) (cwV n hts (goodIn_cat (tw_GoodIn (fun w h => ?_)) (mw_good hw)) rfl rfl rfl ⟨rfl, hw.2.2.2⟩ ⟨hfr.1, by have := hfr.2; have := hw.2.2.1; show 8 + (mL M' + 11) + 41 * d' ≤ R.locals; omega⟩) ⟨pcOf_blind (as := xR (some (c, i)) :: as), by rw [← hcls.1]; exact rcv_of hR K hcls.2 (hokr _ rfl), fun U hU hW => ⟨rfl, by rw [hU]; exact hR, hoka, KK.warm hW K⟩⟩ rfl (by rw [List.length_map]; exact hn) hL.1 (by rw [List.map_append, List.map_reverse]; rfl) (lv_room (Nat.le_trans (cat_le ad st) (by omega))) hd ⟨by omega, by omega⟩) C hL hokst hlo hc hs hQ (fun st₀ v t ⟨v', ad', σ', e, h2, h3, h4, h5⟩ => ⟨v', ad', σ', Outcome.returned.inj e, h2, h3, h4, h5⟩)
  rcases List.mem_cons.mp h with rfl | h
  · exact hl.1
  · rcases List.mem_cons.mp h with rfl | h
    · exact hl.2.1
    · rcases List.mem_cons.mp h with rfl | h
      · exact hl.2.2
      · rcases List.mem_cons.mp h with rfl | h
        · exact hw.2.1
        · cases h
theorem ax_callS {M' : Mth} {idx n d' mc ms : Nat} {as stk : List AVal} (hw : MW M' n) (hl : Cond.methodLink (mO M) idx (mY M') ∈ TW ∧ Cond.static (mY M') ∈ TW) (hn : as.length = n) (hd : decode (mC M) pc = .ok (.invokestatic idx, 3)) (hstk : stk = as.reverse ++ st) (h4 : st.length ≤ 4)
    (hm : AMet G l M' d' mc ms (as) σ (fun v σ' => AWX G l M (d' + 1) post px tb σ' kk nn (pc + 3) L (v.toList ++ st))) : AWX G l M (d' + 1) post px tb σ (kk + mc) (nn + ms) pc L stk := by
  intro p e R s m args below meth co Qc ad H ls locs cells slots C hR hL hst hlo hc hs hQ
  subst hstk
  have hts := C.2.2.2.2.2.1
  have K := C.2.2.2.2.2.2.2.2.1
  have hokst : ∀ v ∈ st, okv σ v := fun v hv => hst v (List.mem_append_right _ hv)
  have hoka : ∀ v ∈ as, okv σ v := fun v hv => hst v (List.mem_append_left _ (List.mem_reverse.mpr hv))
  have hfr := C.2.2.2.2.2.2.2.2.2
  have hroom : mL M' + 11 + 8 + 41 * d' ≤ R.locals := by have := hfr.2; have := hw.2.2.1; omega
  refine ax_goOn (va_runS (Ts := TW) (own := mO M) (y := mY M') (As := as.map (cv ad)) (rest := st.map (cv ad)) ⟨C.1, C.2.1, C.2.2.1, C.2.2.2.2.1, hts⟩ (hm ad) (va_cwS n hts (goodIn_cat (tw_GoodIn (fun w h => ?_)) (mw_good hw)) rfl rfl rfl hw.2.2.2 ⟨hfr.1, by show 8 + (mL M' + 11) + 41 * d' ≤ R.locals; omega⟩) ⟨pcOf_blind (as := as), fun U hU hW => ⟨rfl, by rw [hU]; exact hR, hoka, KK.warm hW K⟩⟩ rfl (by rw [List.length_map]; exact hn) hL.1 (by rw [List.map_append, List.map_reverse]) (lv_room (Nat.le_trans (cat_le ad st) (by omega))) hd ⟨by omega, by omega⟩) C hL hokst hlo hc hs hQ (fun st₀ v t ⟨v', ad', σ', e, h2, h3, h4, h5⟩ => ⟨v', ad', σ', Outcome.returned.inj e, h2, h3, h4, h5⟩)
  rcases List.mem_cons.mp h with rfl | h
  · exact hl.1
  · rcases List.mem_cons.mp h with rfl | h
    · exact hl.2
    · rcases List.mem_cons.mp h with rfl | h
      · exact hw.2.1
      · cases h
theorem ax_callV0 {M' : Mth} {idx n d' c i : Nat} {as stk : List AVal} (hw : MW M' n) (hcls : rcls c = (mY M').cls ∧ (c < 14 ∨ c = 30)) (hl : Cond.methodLink (mO M) idx (mY M') ∈ TW ∧ Cond.instanceMethod (mY M') ∈ TW ∧ Cond.selects (mY M').cls (mY M') (mY M') ∈ TW) (hn : as.length = n) (hd : decode (mC M) pc = .ok (.invokevirtual idx, 3)) (hstk : stk = as.reverse ++ xR (some (c, i)) :: st) (h4 : st.length ≤ 4)
    (hm : AMet G l M' d' 0 0 (xR (some (c, i)) :: as) σ (fun v σ' => AWX G l M (d' + 1) post px tb σ' kk nn (pc + 3) L (v.toList ++ st))) : AWX G l M (d' + 1) post px tb σ kk nn pc L stk := ax_callV hw hcls hl hn hd hstk h4 hm
theorem ax_callS0 {M' : Mth} {idx n d' : Nat} {as stk : List AVal} (hw : MW M' n) (hl : Cond.methodLink (mO M) idx (mY M') ∈ TW ∧ Cond.static (mY M') ∈ TW) (hn : as.length = n) (hd : decode (mC M) pc = .ok (.invokestatic idx, 3)) (hstk : stk = as.reverse ++ st) (h4 : st.length ≤ 4)
    (hm : AMet G l M' d' 0 0 as σ (fun v σ' => AWX G l M (d' + 1) post px tb σ' kk nn (pc + 3) L (v.toList ++ st))) : AWX G l M (d' + 1) post px tb σ kk nn pc L stk := ax_callS hw hl hn hd hstk h4 hm
theorem ax_toI {f : Int32 → AS → Prop} (h : ∀ x σ', f x σ' → AWX G l M d post px tb σ' kk nn pc L (xI x :: st)) : ∀ v σ', retI f v σ' → AWX G l M d post px tb σ' kk nn pc L (v.toList ++ st) := retI_to (g := fun v σ' => AWX G l M d post px tb σ' kk nn pc L (v.toList ++ st)) h
theorem ax_toR {f : Option Nm → AS → Prop} (h : ∀ x σ', f x σ' → AWX G l M d post px tb σ' kk nn pc L (xR x :: st)) : ∀ v σ', retR f v σ' → AWX G l M d post px tb σ' kk nn pc L (v.toList ++ st) := retR_to (g := fun v σ' => AWX G l M d post px tb σ' kk nn pc L (v.toList ++ st)) h
end AX
