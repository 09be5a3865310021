/-! What is known of the launch; walks in words of states. -/
def jsB : List (List Int32) := [[115, 99, 101, 110, 101], [97, 116], [102, 111, 114], [119, 97, 110, 116], [110, 111, 116], [97, 110, 121, 111, 110, 101], [108, 111, 111, 107], [104, 111, 109, 101], [115, 101, 101, 110], [97, 103, 101], [116, 97, 108, 108], [97, 110, 100], [111, 114], [98, 97, 115, 101], [111, 118, 101, 114], [98, 101, 102, 111, 114, 101], [97, 102, 116, 101, 114], [101, 97, 99, 104], [117, 112], [100, 111, 119, 110], [110, 111, 32, 115, 117, 99, 104, 32, 112, 101, 114, 115, 111, 110, 44, 32, 115, 99, 101, 110, 101, 32, 111, 114, 32, 110, 117, 109, 98, 101, 114, 32, 111, 102, 32, 102, 97, 99, 116, 115]]
def strW : List (String × Nat × String × Nat) := [("ExtrasOffice$AskReader", 37, "scene", 0), ("ExtrasOffice$AskReader", 79, "at", 1), ("ExtrasOffice$AskReader", 84, "for", 2), ("ExtrasOffice$AskReader", 89, "want", 3), ("ExtrasOffice$AskReader", 108, "not", 4), ("ExtrasOffice$AskReader", 130, "anyone", 5), ("ExtrasOffice$AskReader", 132, "look", 6), ("ExtrasOffice$AskReader", 134, "home", 7), ("ExtrasOffice$AskReader", 136, "seen", 8), ("ExtrasOffice$AskReader", 138, "age", 9), ("ExtrasOffice$AskReader", 140, "tall", 10), ("ExtrasOffice$AskReader", 100, "and", 11), ("ExtrasOffice$AskReader", 103, "or", 12), ("ExtrasOffice$Term", 15, "base", 13), ("ExtrasOffice$Term", 23, "over", 14), ("ExtrasOffice$Term", 25, "before", 15), ("ExtrasOffice$Term", 27, "after", 16), ("ExtrasOffice$Term", 40, "each", 17), ("ExtrasOffice$Term", 46, "up", 18), ("ExtrasOffice$Term", 52, "down", 19), ("ExtrasOffice", 206, "no such person, scene or number of facts", 20), ("ExtrasOfficeModel", 276, "scene", 0), ("ExtrasOfficeModel", 280, "at", 1), ("ExtrasOfficeModel", 284, "for", 2), ("ExtrasOfficeModel", 286, "want", 3), ("ExtrasOfficeModel", 248, "not", 4), ("ExtrasOfficeModel", 256, "anyone", 5), ("ExtrasOfficeModel", 258, "look", 6), ("ExtrasOfficeModel", 270, "home", 7), ("ExtrasOfficeModel", 271, "seen", 8), ("ExtrasOfficeModel", 273, "age", 9), ("ExtrasOfficeModel", 274, "tall", 10), ("ExtrasOfficeModel", 246, "and", 11), ("ExtrasOfficeModel", 241, "or", 12), ("ExtrasOfficeModel", 337, "base", 13), ("ExtrasOfficeModel", 339, "over", 14), ("ExtrasOfficeModel", 341, "before", 15), ("ExtrasOfficeModel", 343, "after", 16), ("ExtrasOfficeModel", 348, "each", 17), ("ExtrasOfficeModel", 350, "up", 18), ("ExtrasOfficeModel", 352, "down", 19)]
def castW : List String := ["ExtrasOffice", "java/util/ArrayList", "ExtrasOffice$Row", "ExtrasOffice$Tokens", "ExtrasOffice$AskReader", "ExtrasOffice$Facts", "ExtrasOffice$Plan", "ExtrasOffice$Dressing", "ExtrasOfficeModel", "ExtrasOffice$Person", "ExtrasOffice$Ask", "ExtrasOffice$Agreement", "ExtrasOffice$Term", "ExtrasOffice$Turn", "java/util/NoSuchElementException", "java/lang/Throwable", "java/lang/String", "[I", "[Ljava/lang/Object;", "[B", "[Z", "[J"]
def gA0 (G : GG) : Nat → Prop := fun q => gB G ≤ q
def jsOK (G : GG) (U : State) : Prop := ∀ i, i < 21 → gF G 32 i = gV G i ∧ va_O "java/lang/String" (gF G 30 i) (gA0 G) U (gH G) ∧ va_OF "java/lang/String" "coder" "B" (.int 0) (gF G 30 i) (gA0 G) U (gH G) ∧ va_OF "java/lang/String" "value" "[B" (.ref (gV G i)) (gF G 30 i) (gA0 G) U (gH G) ∧ va_T .byte (gV G i) (jsB.getD i []).length (fun j => .int ((jsB.getD i []).getD j 0)) (gA0 G) U (gH G)
/-- what the throw of the class's exception stands on -/
def KX (G : GG) (U : State) : Prop := va_Nw (.castable "java/util/NoSuchElementException" "java/util/NoSuchElementException") U ∧ va_Nw (.declares (Bundle.initS "java/lang/RuntimeException")) U ∧ va_Nw (.declares (Bundle.initS "java/lang/Exception")) U ∧ va_Nw (.declares (Bundle.initS "java/lang/Throwable")) U ∧ vx_Zq Bundle.tN "UNASSIGNED_STACK" Bundle.steD (gA0 G) U (gH G) ∧ vx_Zq Bundle.tN "SUPPRESSED_SENTINEL" Bundle.listD (gA0 G) U (gH G)
theorem KX.warm {G : GG} {s U : State} (hW : s.WarmedH U.vm) (h : KX G s) : KX G U := by
  obtain ⟨h1, h2, h3, h4, h5, h6⟩ := h
  exact ⟨va_Nw.warmC hW h1, va_Nw.warmD hW h2, va_Nw.warmD hW h3, va_Nw.warmD hW h4, vx_Zq.moved hW.alike h5, vx_Zq.moved hW.alike h6⟩
theorem KX.same {G : GG} {u U : State} (hv : u.vm = U.vm) (h : KX G u) : KX G U := by
  obtain ⟨h1, h2, h3, h4, h5, h6⟩ := h
  have hA : u.vm.Alike U.vm := by rw [hv]; exact Vm.Alike.refl U.vm
  exact ⟨va_Nw.same rfl hv h1, va_Nw.same rfl hv h2, va_Nw.same rfl hv h3, va_Nw.same rfl hv h4, vx_Zq.moved hA h5, vx_Zq.moved hA h6⟩
/-- the two arrays that were there before: of ints, of objects -/
def KF (G : GG) (U : State) : Prop := (∀ z, (gH G)[gF G 27 0]? = some z → U.isArrayOf z .int ∧ z.vm ≠ .unknown) ∧ ∀ z, (gH G)[gF G 23 0]? = some z → U.isArrayOf z (.object "java/lang/Object") ∧ z.vm ≠ .unknown ∧ z.vm.isStatics = false ∧ U.vm.findClass "[Ljava/lang/Object;" = some z.cls ∧ z.slots.size.toInt32 = 0
theorem KF.moved {G : GG} {u U : State} (hvm : u.vm.Alike U.vm) (h : KF G u) : KF G U := ⟨fun z hz => ⟨State.isArrayOf_alike hvm (h.1 z hz).1, (h.1 z hz).2⟩, fun z hz => ⟨State.isArrayOf_alike hvm (h.2 z hz).1, (h.2 z hz).2.1, (h.2 z hz).2.2.1, by rw [hvm.findClass]; exact (h.2 z hz).2.2.2.1, (h.2 z hz).2.2.2.2⟩⟩
def KK (G : GG) (U : State) : Prop := va_K G.1 vwCl (tysG G) U ∧ (∀ q ∈ nestW, va_Nw (.methodLinkNest q.1 q.2.1 q.2.2.1 q.2.2.2) U) ∧ (∀ C ∈ castW, va_Nw (.castable C "java/lang/Object") U) ∧ (va_Dc U ∧ va_AO "java/lang/Object" U ∧ va_Mi "[Ljava/lang/Object;" (gF G 31 0) U) ∧ jsOK G U ∧ (∀ q ∈ strW, vk_R q.1 q.2.1 q.2.2.1 (gF G 30 q.2.2.2) U) ∧ va_Z "java/util/ArrayList" "DEFAULTCAPACITY_EMPTY_ELEMENTDATA" "[Ljava/lang/Object;" (.ref (gF G 23 0)) (gA0 G) U (gH G) ∧ va_Z "java/lang/String" "COMPACT_STRINGS" "Z" (.int 1) (gA0 G) U (gH G) ∧ va_Zq "jdk/internal/util/Preconditions" "SIOOBE_FORMATTER" "Ljava/util/function/BiFunction;" (gA0 G) U (gH G) ∧ KX G U ∧ KF G U
theorem KK.warm {G : GG} {s U : State} (hW : s.WarmedH U.vm) (h : KK G s) : KK G U := by
  obtain ⟨h1, h2, h3, ⟨h4, h5, h6⟩, h7, h8, h9, h10, h11, h12, h13⟩ := h
  exact ⟨va_K.moved hW.alike h1, fun q hq => va_Nw.warmM hW (h2 q hq), fun C hC => va_Nw.warmC hW (h3 C hC), ⟨h4.moved hW.alike, h5.moved hW.alike, h6.moved hW.alike⟩, fun i hi => ⟨(h7 i hi).1, va_O.moved hW.alike (h7 i hi).2.1, va_OF.moved hW.alike (h7 i hi).2.2.1, va_OF.moved hW.alike (h7 i hi).2.2.2.1, va_T.moved hW.alike (h7 i hi).2.2.2.2⟩, fun q hq => vk_R.warm hW (h8 q hq), va_Z.moved hW.alike h9, va_Z.moved hW.alike h10, va_Zq.moved hW.alike h11, h12.warm hW, h13.moved hW.alike⟩
theorem KK.same {G : GG} {u U : State} (hv : u.vm = U.vm) (h : KK G u) : KK G U := by
  obtain ⟨h1, h2, h3, ⟨h4, h5, h6⟩, h7, h8, h9, h10, h11, h12, h13⟩ := h
  have hA : u.vm.Alike U.vm := by rw [hv]; exact Vm.Alike.refl U.vm
  exact ⟨va_K.moved hA h1, fun q hq => va_Nw.same rfl hv (h2 q hq), fun C hC => va_Nw.same rfl hv (h3 C hC), ⟨h4.moved hA, h5.moved hA, h6.moved hA⟩, fun i hi => ⟨(h7 i hi).1, va_O.moved hA (h7 i hi).2.1, va_OF.moved hA (h7 i hi).2.2.1, va_OF.moved hA (h7 i hi).2.2.2.1, va_T.moved hA (h7 i hi).2.2.2.2⟩, fun q hq => vk_R.same hv.symm (h8 q hq), va_Z.moved hA h9, va_Z.moved hA h10, va_Zq.moved hA h11, h12.same hv, h13.moved hA⟩
def Cx (G : GG) (M : Mth) (d : Nat) (p : Program) (R : Room) (s : State) (m : MethodId) (args : Array Value) (meth : Method) (c : Code) : Prop :=
  p.tables.exec = Jvm.exec ∧ c.code = mC M ∧ c.maxLocals = mL M ∧ meth.sig.returnType = mR M ∧ s.vm.findClass (mO M) = some m.cls ∧ (∀ w ∈ TW, w.before args s = true) ∧ meth.locks = false ∧ meth.name = (mY M).name ∧ KK G s ∧ d ≤ R.frames ∧ 41 * d ≤ R.locals
/-- the walk from here on ends, with 'post' of its answer and of the state, making at most k objects of n slots -/
def AW (G : GG) (l : Launch) (M : Mth) (d : Nat) (post : Option AVal → AS → Prop) (σ : AS) (kk nn pc : Nat) (L : List (Option AVal)) (st : List AVal) : Prop :=
  ∀ (p : Program) (e : Env) (R : Room) (s : State) (m : MethodId) (args : Array Value) (below : List Frame) (meth : Method) (c : Code) (Qc : Array Value → State → Outcome → State → Prop) (ad : Nat → Nat → Nat) (H : Heap) (ls : Array Slot) (locs : List Loc) (cells slots : Nat),
    Cx G M d p R s m args meth c → Rep G ad σ H → LR σ ad (mL M) L ls → (∀ v ∈ st, okv σ v) → (∀ q ∈ locs, gB G ≤ q.base) → cells + kk ≤ R.cells → slots + nn ≤ R.slots →
    (∀ (v : Option AVal) (ad' : Nat → Nat → Nat) (σ' : AS) (t : State), s.WarmedH t.vm → Rep G ad' σ' t.heap → Ext σ ad σ' ad' → (∀ w ∈ v, okv σ' w) → post v σ' → Qc args s (.returned (v.map (cv ad'))) t) →
    W p l e R s m args below meth c H locs cells slots (MQ below Qc args s R.cells R.slots (gA0 G)) (F0 m pc ls (st.map (cv ad)))
/-- a method's contract: from state σ with these arguments it returns, with 'post' -/
def AMet (G : GG) (l : Launch) (M : Mth) (d mc ms : Nat) (as : List AVal) (σ : AS) (post : Option AVal → AS → Prop) : Prop :=
  ∀ ad : Nat → Nat → Nat, Met l (mY M) (.code (mY M) (mC M) (mL M) (mR M) :: TW) { frames := d, cells := mc, slots := ms, locals := 41 * d } (fun v U => v = (as.map (cv ad)).toArray ∧ Rep G ad σ U.heap ∧ (∀ v ∈ as, okv σ v) ∧ KK G U) (fun _ st o t => ∃ (v : Option AVal) (ad' : Nat → Nat → Nat) (σ' : AS), o = .returned (v.map (cv ad')) ∧ Rep G ad' σ' t.heap ∧ Ext σ ad σ' ad' ∧ (∀ w ∈ v, okv σ' w) ∧ post v σ') mc ms (gA0 G)
/-- the locals at the entry -/
def largs : List AVal → List (Option AVal)
  | [] => []
  | v :: vs => match v with
    | .inr (.inl x) => some (.inr (.inl x)) :: none :: largs vs
    | v => some v :: largs vs
def lpad : Nat → List (Option AVal) → List (Option AVal)
  | 0, _ => []
  | n + 1, [] => none :: lpad n []
  | n + 1, a :: L => a :: lpad n L
theorem lget_lpad : ∀ (n : Nat) (L : List (Option AVal)) (i : Nat) (v : AVal), lget (lpad n L) i = some v → lget L i = some v
  | 0, L, i, v, h => by cases h
  | n + 1, [], 0, v, h => by cases h
  | n + 1, [], i + 1, v, h => by
    have := lget_lpad n [] i v h
    cases this
  | n + 1, a :: L, 0, v, h => h
  | n + 1, a :: L, i + 1, v, h => lget_lpad n L i v h
theorem lget_largs (ad : Nat → Nat → Nat) : ∀ (vs : List AVal) (i : Nat) (v : AVal), lget (largs vs) i = some v → (lg_sl (vs.map (cv ad)))[i]? = some (.val (cv ad v)) ∧ v ∈ vs
  | [], i, v, h => by cases h
  | .inl x :: vs, 0, v, h => by cases h; exact ⟨rfl, List.mem_cons_self⟩
  | .inl x :: vs, i + 1, v, h => by
    obtain ⟨a, b⟩ := lget_largs ad vs i v h
    exact ⟨a, List.mem_cons_of_mem _ b⟩
  | .inr (.inl x) :: vs, 0, v, h => by cases h; exact ⟨rfl, List.mem_cons_self⟩
  | .inr (.inl x) :: vs, 1, v, h => by cases h
  | .inr (.inl x) :: vs, i + 2, v, h => by
    obtain ⟨a, b⟩ := lget_largs ad vs i v h
    exact ⟨a, List.mem_cons_of_mem _ b⟩
  | .inr (.inr none) :: vs, 0, v, h => by cases h; exact ⟨rfl, List.mem_cons_self⟩
  | .inr (.inr none) :: vs, i + 1, v, h => by
    obtain ⟨a, b⟩ := lget_largs ad vs i v h
    exact ⟨a, List.mem_cons_of_mem _ b⟩
  | .inr (.inr (some r)) :: vs, 0, v, h => by cases h; exact ⟨rfl, List.mem_cons_self⟩
  | .inr (.inr (some r)) :: vs, i + 1, v, h => by
    obtain ⟨a, b⟩ := lget_largs ad vs i v h
    exact ⟨a, List.mem_cons_of_mem _ b⟩
theorem llen_largs (ad : Nat → Nat → Nat) : ∀ (vs : List AVal), (lg_sl (vs.map (cv ad))).length = (largs vs).length
  | [] => rfl
  | .inl x :: vs => congrArg (· + 1) (llen_largs ad vs)
  | .inr (.inl x) :: vs => congrArg (· + 2) (llen_largs ad vs)
  | .inr (.inr none) :: vs => congrArg (· + 1) (llen_largs ad vs)
  | .inr (.inr (some r)) :: vs => congrArg (· + 1) (llen_largs ad vs)
theorem KK.blind {G : GG} {U : State} {g : JFrame} {mk : MethodId} {a : Array Value} (h : KK G U) : KK G (U.calling g mk a) := KK.same (u := U) rfl h
set_option maxHeartbeats 1000000 in
theorem AMet.of {G : GG} {l : Launch} {M : Mth} {d mc ms : Nat} {as : List AVal} {σ : AS} {post : Option AVal → AS → Prop} (hy : plainName (mY M).cls = true) (hl : (largs as).length ≤ mL M) (h : AW G l M d post σ mc ms 0 (lpad (mL M) (largs as)) []) : AMet G l M d mc ms as σ post := by
  intro ad
  refine Met.ofW (cc := mC M) (maxL := mL M) (ret := mR M) hy rfl ?_
  intro p e s m args below meth c s₁ B hml hv
  obtain ⟨rfl, hR, hok, hK⟩ := hv
  have hts : ∀ w ∈ (Cond.code (mY M) (mC M) (mL M) (mR M) :: TW), w.before ((as.map (cv ad)).toArray) s = true := atoms_spec B.pre
  have hown : s.vm.findClass (mY M).cls = some m.cls := findClass_of_methodNamed B.named
  rw [lg_entry_eq]
  have hle := lv_entry (as.map (cv ad)) (n := mL M) (by rw [llen_largs]; exact hl)
  refine h p e _ s m _ below meth c _ ad s.heap _ [] 0 0 ⟨B.exec, B.bytes, hml, B.returns, hown, fun w hw => hts w (List.mem_cons_of_mem _ hw), B.notSynchronized, (name_of_methodNamed B.named B.method).1, hK, Nat.le_refl _, Nat.le_refl _⟩ hR ⟨hle.1, hle.2.1, fun i v hi => ?_⟩ (fun _ h => by cases h) (fun _ h => by cases h) (by show 0 + mc ≤ mc; omega) (by show 0 + ms ≤ ms; omega) (fun v ad' σ' t hW hR' hE hok' hp => ⟨v, ad', σ', rfl, hR', hE, hok', hp⟩)
  obtain ⟨a, b⟩ := lget_largs ad as i v (lget_lpad _ _ _ _ hi)
  refine ⟨?_, hok v b⟩
  rw [List.getElem?_toArray, List.getElem?_append_left (List.getElem?_eq_some_iff.mp a).1]
  exact a
theorem AMet.mono {G : GG} {l : Launch} {M : Mth} {d mc ms : Nat} {as : List AVal} {σ : AS} {post post' : Option AVal → AS → Prop} (h : AMet G l M d mc ms as σ post) (hp : ∀ v σ', post v σ' → post' v σ') : AMet G l M d mc ms as σ post' := fun ad => MetFree.mono (h ad) (fun _ _ h => h) (fun _ _ _ _ _ h => h) (fun _ _ _ _ _ ⟨⟨v, ad', σ', h1, h2, h3, h4, h5⟩, hL⟩ => ⟨⟨v, ad', σ', h1, h2, h3, h4, hp v σ' h5⟩, hL⟩)
theorem ok_tl {σ : AS} {a : AVal} {st : List AVal} (h : ∀ v ∈ a :: st, okv σ v) : ∀ v ∈ st, okv σ v := (List.forall_mem_cons.mp h).2
theorem ok_hd {σ : AS} {a : AVal} {st : List AVal} (h : ∀ v ∈ a :: st, okv σ v) : okv σ a := (List.forall_mem_cons.mp h).1
theorem ok_c {σ : AS} {a : AVal} {st : List AVal} (ha : okv σ a) (h : ∀ v ∈ st, okv σ v) : ∀ v ∈ a :: st, okv σ v := List.forall_mem_cons.mpr ⟨ha, h⟩
theorem ok_t {σ : AS} {x : Int32} : okv σ (xI x) := trivial
theorem ok_tL {σ : AS} {x : Int64} : okv σ (xL x) := trivial
section ROWS1
variable {G : GG} {l : Launch} {M : Mth} {d : Nat} {post : Option AVal → AS → Prop} {σ : AS} {kk nn pc : Nat} {L : List (Option AVal)} {st : List AVal}

theorem aw_iconst {n : Int} {x : Int32} (hd : decode (mC M) pc = .ok (.iconst n, 1)) (hv : Int32.ofInt n = x) (k : AW G l M d post σ kk nn (pc + 1) L (xI x :: st)) : AW G l M d post σ kk nn pc L st := by
  intro p e R s m args below meth c Qc ad H ls locs cells slots C hR hL hst hlo hc hs hQ
  exact lv_iconst C.1 C.2.1 hd hv (k p e R s m args below meth c Qc ad H ls locs cells slots C hR hL (ok_c ok_t hst) hlo hc hs hQ)
theorem aw_bipush {n : Int} {x : Int32} (hd : decode (mC M) pc = .ok (.bipush n, 2)) (hv : (Int8.ofInt n).toInt32 = x) (k : AW G l M d post σ kk nn (pc + 2) L (xI x :: st)) : AW G l M d post σ kk nn pc L st := by
  intro p e R s m args below meth c Qc ad H ls locs cells slots C hR hL hst hlo hc hs hQ
  exact lv_bipush C.1 C.2.1 hd hv (k p e R s m args below meth c Qc ad H ls locs cells slots C hR hL (ok_c ok_t hst) hlo hc hs hQ)
theorem aw_sipush {n : Int} {x : Int32} (hd : decode (mC M) pc = .ok (.sipush n, 3)) (hv : (Int16.ofInt n).toInt32 = x) (k : AW G l M d post σ kk nn (pc + 3) L (xI x :: st)) : AW G l M d post σ kk nn pc L st := by
  intro p e R s m args below meth c Qc ad H ls locs cells slots C hR hL hst hlo hc hs hQ
  exact lv_sipush C.1 C.2.1 hd hv (k p e R s m args below meth c Qc ad H ls locs cells slots C hR hL (ok_c ok_t hst) hlo hc hs hQ)
theorem aw_lconst {n : Fin 2} {x : Int64} (hd : decode (mC M) pc = .ok (.lconst n, 1)) (hv : Int64.ofNat (n : Nat) = x) (k : AW G l M d post σ kk nn (pc + 1) L (xL x :: st)) : AW G l M d post σ kk nn pc L st := by
  intro p e R s m args below meth c Qc ad H ls locs cells slots C hR hL hst hlo hc hs hQ
  exact lv_lconst C.1 C.2.1 hd hv (k p e R s m args below meth c Qc ad H ls locs cells slots C hR hL (ok_c ok_tL hst) hlo hc hs hQ)
theorem aw_null  (hd : decode (mC M) pc = .ok (.aconst_null, 1))  (k : AW G l M d post σ kk nn (pc + 1) L (xR none :: st)) : AW G l M d post σ kk nn pc L st := by
  intro p e R s m args below meth c Qc ad H ls locs cells slots C hR hL hst hlo hc hs hQ
  exact lv_null C.1 C.2.1 hd (k p e R s m args below meth c Qc ad H ls locs cells slots C hR hL (ok_c (fun _ h => by cases h) hst) hlo hc hs hQ)
theorem aw_ldcI {i : Nat} {x : Int32} (hd : decode (mC M) pc = .ok (.ldc i, 2)) (hw : Cond.constant (mO M) i x ∈ TW) (k : AW G l M d post σ kk nn (pc + 2) L (xI x :: st)) : AW G l M d post σ kk nn pc L st := by
  intro p e R s m args below meth c Qc ad H ls locs cells slots C hR hL hst hlo hc hs hQ
  exact lv_ldc C.1 C.2.1 C.2.2.2.2.1 (C.2.2.2.2.2.1 _ hw) hd (k p e R s m args below meth c Qc ad H ls locs cells slots C hR hL (ok_c ok_t hst) hlo hc hs hQ)
theorem aw_ldcwI {i : Nat} {x : Int32} (hd : decode (mC M) pc = .ok (.ldc_w i, 3)) (hw : Cond.constant (mO M) i x ∈ TW) (k : AW G l M d post σ kk nn (pc + 3) L (xI x :: st)) : AW G l M d post σ kk nn pc L st := by
  intro p e R s m args below meth c Qc ad H ls locs cells slots C hR hL hst hlo hc hs hQ
  exact lv_ldcw C.1 C.2.1 C.2.2.2.2.1 (C.2.2.2.2.2.1 _ hw) hd (k p e R s m args below meth c Qc ad H ls locs cells slots C hR hL (ok_c ok_t hst) hlo hc hs hQ)
theorem aw_ldc2 {i : Nat} {x : Int64} (hd : decode (mC M) pc = .ok (.ldc2_w i, 3)) (hw : Cond.constantLong (mO M) i x ∈ TW) (k : AW G l M d post σ kk nn (pc + 3) L (xL x :: st)) : AW G l M d post σ kk nn pc L st := by
  intro p e R s m args below meth c Qc ad H ls locs cells slots C hR hL hst hlo hc hs hQ
  exact lv_ldc2 C.1 C.2.1 C.2.2.2.2.1 (C.2.2.2.2.2.1 _ hw) hd (k p e R s m args below meth c Qc ad H ls locs cells slots C hR hL (ok_c ok_tL hst) hlo hc hs hQ)
theorem aw_iload_n {j : Fin 4} {i : Nat} {x : Int32} (hd : decode (mC M) pc = .ok (.iload_n j, 1)) (hi : (j : Nat) = i) (hl : lget L i = some (xI x)) (k : AW G l M d post σ kk nn (pc + 1) L (xI x :: st)) : AW G l M d post σ kk nn pc L st := by
  intro p e R s m args below meth c Qc ad H ls locs cells slots C hR hL hst hlo hc hs hQ
  exact lv_iload_n C.1 C.2.1 hd hi (hL.2.2 _ _ hl).1 (k p e R s m args below meth c Qc ad H ls locs cells slots C hR hL (ok_c ok_t hst) hlo hc hs hQ)
theorem aw_iload {i : Nat} {x : Int32} (hd : decode (mC M) pc = .ok (.iload i, 2)) (hl : lget L i = some (xI x)) (k : AW G l M d post σ kk nn (pc + 2) L (xI x :: st)) : AW G l M d post σ kk nn pc L st := by
  intro p e R s m args below meth c Qc ad H ls locs cells slots C hR hL hst hlo hc hs hQ
  exact lv_iload C.1 C.2.1 hd (hL.2.2 _ _ hl).1 (k p e R s m args below meth c Qc ad H ls locs cells slots C hR hL (ok_c ok_t hst) hlo hc hs hQ)
theorem aw_lload_n {j : Fin 4} {i : Nat} {x : Int64} (hd : decode (mC M) pc = .ok (.lload_n j, 1)) (hi : (j : Nat) = i) (hl : lget L i = some (xL x)) (k : AW G l M d post σ kk nn (pc + 1) L (xL x :: st)) : AW G l M d post σ kk nn pc L st := by
  intro p e R s m args below meth c Qc ad H ls locs cells slots C hR hL hst hlo hc hs hQ
  exact lv_lload_n C.1 C.2.1 hd hi (hL.2.2 _ _ hl).1 (k p e R s m args below meth c Qc ad H ls locs cells slots C hR hL (ok_c ok_tL hst) hlo hc hs hQ)
theorem aw_lload {i : Nat} {x : Int64} (hd : decode (mC M) pc = .ok (.lload i, 2)) (hl : lget L i = some (xL x)) (k : AW G l M d post σ kk nn (pc + 2) L (xL x :: st)) : AW G l M d post σ kk nn pc L st := by
  intro p e R s m args below meth c Qc ad H ls locs cells slots C hR hL hst hlo hc hs hQ
  exact lv_lload C.1 C.2.1 hd (hL.2.2 _ _ hl).1 (k p e R s m args below meth c Qc ad H ls locs cells slots C hR hL (ok_c ok_tL hst) hlo hc hs hQ)
theorem aw_aload_n {j : Fin 4} {i : Nat} {r : Option Nm} (hd : decode (mC M) pc = .ok (.aload_n j, 1)) (hi : (j : Nat) = i) (hl : lget L i = some (xR r)) (k : AW G l M d post σ kk nn (pc + 1) L (xR r :: st)) : AW G l M d post σ kk nn pc L st := by
  intro p e R s m args below meth c Qc ad H ls locs cells slots C hR hL hst hlo hc hs hQ
  have k2 := k p e R s m args below meth c Qc ad H ls locs cells slots C hR hL (ok_c (hL.2.2 _ _ hl).2 hst) hlo hc hs hQ
  cases r with
  | none => exact lv_aload_nN C.1 C.2.1 hd hi (hL.2.2 _ _ hl).1 k2
  | some n => exact lv_aload_n C.1 C.2.1 hd hi (hL.2.2 _ _ hl).1 k2
theorem aw_aload {i : Nat} {r : Option Nm} (hd : decode (mC M) pc = .ok (.aload i, 2)) (hl : lget L i = some (xR r)) (k : AW G l M d post σ kk nn (pc + 2) L (xR r :: st)) : AW G l M d post σ kk nn pc L st := by
  intro p e R s m args below meth c Qc ad H ls locs cells slots C hR hL hst hlo hc hs hQ
  have k2 := k p e R s m args below meth c Qc ad H ls locs cells slots C hR hL (ok_c (hL.2.2 _ _ hl).2 hst) hlo hc hs hQ
  cases r with
  | none => exact lv_aloadN C.1 C.2.1 hd (hL.2.2 _ _ hl).1 k2
  | some n => exact lv_aload C.1 C.2.1 hd (hL.2.2 _ _ hl).1 k2
theorem aw_istore_n {j : Fin 4} {i : Nat} {x : Int32} (hd : decode (mC M) pc = .ok (.istore_n j, 1)) (hi : (j : Nat) = i) (hn : i < mL M) (k : AW G l M d post σ kk nn (pc + 1) (lset L i (xI x)) st) : AW G l M d post σ kk nn pc L (xI x :: st) := by
  intro p e R s m args below meth c Qc ad H ls locs cells slots C hR hL hst hlo hc hs hQ
  exact lv_istore_n C.1 C.2.1 hd hi hL.has hn rfl (fun ls2 h2 => k p e R s m args below meth c Qc ad H ls2 locs cells slots C hR (hL.st1 (v := xI x) trivial h2) (ok_tl hst) hlo hc hs hQ)
theorem aw_lstore_n {j : Fin 4} {i : Nat} {x : Int64} (hd : decode (mC M) pc = .ok (.lstore_n j, 1)) (hi : (j : Nat) = i) (hn : i + 1 < mL M) (k : AW G l M d post σ kk nn (pc + 1) (lset2 L i (xL x)) st) : AW G l M d post σ kk nn pc L (xL x :: st) := by
  intro p e R s m args below meth c Qc ad H ls locs cells slots C hR hL hst hlo hc hs hQ
  exact lv_lstore_n C.1 C.2.1 hd hi hL.has hn rfl (fun ls2 h2 => k p e R s m args below meth c Qc ad H ls2 locs cells slots C hR (hL.st2 (v := xL x) trivial h2) (ok_tl hst) hlo hc hs hQ)
theorem aw_astore_n {j : Fin 4} {i : Nat} {r : Option Nm} (hd : decode (mC M) pc = .ok (.astore_n j, 1)) (hi : (j : Nat) = i) (hn : i < mL M) (k : AW G l M d post σ kk nn (pc + 1) (lset L i (xR r)) st) : AW G l M d post σ kk nn pc L (xR r :: st) := by
  intro p e R s m args below meth c Qc ad H ls locs cells slots C hR hL hst hlo hc hs hQ
  cases r with
  | none => exact lv_astore_nN C.1 C.2.1 hd hi hL.has hn rfl (fun ls2 h2 => k p e R s m args below meth c Qc ad H ls2 locs cells slots C hR (hL.st1 (v := xR none) (ok_hd hst) h2) (ok_tl hst) hlo hc hs hQ)
  | some n => exact lv_astore_n C.1 C.2.1 hd hi hL.has hn rfl (fun ls2 h2 => k p e R s m args below meth c Qc ad H ls2 locs cells slots C hR (hL.st1 (v := xR (some n)) (ok_hd hst) h2) (ok_tl hst) hlo hc hs hQ)
theorem aw_istore {i : Nat} {x : Int32} (hd : decode (mC M) pc = .ok (.istore i, 2)) (hn : i < mL M) (k : AW G l M d post σ kk nn (pc + 2) (lset L i (xI x)) st) : AW G l M d post σ kk nn pc L (xI x :: st) := by
  intro p e R s m args below meth c Qc ad H ls locs cells slots C hR hL hst hlo hc hs hQ
  exact lv_istore C.1 C.2.1 hd hL.has hn rfl (fun ls2 h2 => k p e R s m args below meth c Qc ad H ls2 locs cells slots C hR (hL.st1 (v := xI x) trivial h2) (ok_tl hst) hlo hc hs hQ)
theorem aw_lstore {i : Nat} {x : Int64} (hd : decode (mC M) pc = .ok (.lstore i, 2)) (hn : i + 1 < mL M) (k : AW G l M d post σ kk nn (pc + 2) (lset2 L i (xL x)) st) : AW G l M d post σ kk nn pc L (xL x :: st) := by
  intro p e R s m args below meth c Qc ad H ls locs cells slots C hR hL hst hlo hc hs hQ
  exact lv_lstore C.1 C.2.1 hd hL.has hn rfl (fun ls2 h2 => k p e R s m args below meth c Qc ad H ls2 locs cells slots C hR (hL.st2 (v := xL x) trivial h2) (ok_tl hst) hlo hc hs hQ)
theorem aw_astore {i : Nat} {r : Option Nm} (hd : decode (mC M) pc = .ok (.astore i, 2)) (hn : i < mL M) (k : AW G l M d post σ kk nn (pc + 2) (lset L i (xR r)) st) : AW G l M d post σ kk nn pc L (xR r :: st) := by
  intro p e R s m args below meth c Qc ad H ls locs cells slots C hR hL hst hlo hc hs hQ
  cases r with
  | none => exact lv_astoreN C.1 C.2.1 hd hL.has hn rfl (fun ls2 h2 => k p e R s m args below meth c Qc ad H ls2 locs cells slots C hR (hL.st1 (v := xR none) (ok_hd hst) h2) (ok_tl hst) hlo hc hs hQ)
  | some n => exact lv_astore C.1 C.2.1 hd hL.has hn rfl (fun ls2 h2 => k p e R s m args below meth c Qc ad H ls2 locs cells slots C hR (hL.st1 (v := xR (some n)) (ok_hd hst) h2) (ok_tl hst) hlo hc hs hQ)
theorem aw_iinc {i : Nat} {n : Int} {x v : Int32} (hd : decode (mC M) pc = .ok (.iinc i n, 3)) (hl : lget L i = some (xI x)) (hv : x + Int32.ofInt n = v) (hn : i < mL M) (k : AW G l M d post σ kk nn (pc + 3) (lset L i (xI v)) st) : AW G l M d post σ kk nn pc L st := by
  intro p e R s m args below meth c Qc ad H ls locs cells slots C hR hL hst hlo hc hs hQ
  obtain ⟨j, hj⟩ := List.getElem?_of_mem (mem_lpairs (ad := ad) hl)
  exact lv_iinc C.1 C.2.1 hd hL.has hj hv hn rfl (fun ls2 h2 => k p e R s m args below meth c Qc ad H ls2 locs cells slots C hR (hL.st1 (v := xI v) trivial h2) hst hlo hc hs hQ)
theorem aw_iadd {x y : Int32} (hd : decode (mC M) pc = .ok (.iadd, 1))  (k : AW G l M d post σ kk nn (pc + 1) L (xI (x + y) :: st)) : AW G l M d post σ kk nn pc L (xI y :: xI x :: st) := by
  intro p e R s m args below meth c Qc ad H ls locs cells slots C hR hL hst hlo hc hs hQ
  exact lv_iadd C.1 C.2.1 hd (k p e R s m args below meth c Qc ad H ls locs cells slots C hR hL (ok_c ok_t (ok_tl (ok_tl hst))) hlo hc hs hQ)
theorem aw_isub {x y : Int32} (hd : decode (mC M) pc = .ok (.isub, 1))  (k : AW G l M d post σ kk nn (pc + 1) L (xI (x - y) :: st)) : AW G l M d post σ kk nn pc L (xI y :: xI x :: st) := by
  intro p e R s m args below meth c Qc ad H ls locs cells slots C hR hL hst hlo hc hs hQ
  exact lv_isub C.1 C.2.1 hd (k p e R s m args below meth c Qc ad H ls locs cells slots C hR hL (ok_c ok_t (ok_tl (ok_tl hst))) hlo hc hs hQ)
theorem aw_imul {x y : Int32} (hd : decode (mC M) pc = .ok (.imul, 1))  (k : AW G l M d post σ kk nn (pc + 1) L (xI (x * y) :: st)) : AW G l M d post σ kk nn pc L (xI y :: xI x :: st) := by
  intro p e R s m args below meth c Qc ad H ls locs cells slots C hR hL hst hlo hc hs hQ
  exact lv_imul C.1 C.2.1 hd (k p e R s m args below meth c Qc ad H ls locs cells slots C hR hL (ok_c ok_t (ok_tl (ok_tl hst))) hlo hc hs hQ)
theorem aw_iand {x y : Int32} (hd : decode (mC M) pc = .ok (.iand, 1))  (k : AW G l M d post σ kk nn (pc + 1) L (xI (x &&& y) :: st)) : AW G l M d post σ kk nn pc L (xI y :: xI x :: st) := by
  intro p e R s m args below meth c Qc ad H ls locs cells slots C hR hL hst hlo hc hs hQ
  exact lv_iand C.1 C.2.1 hd (k p e R s m args below meth c Qc ad H ls locs cells slots C hR hL (ok_c ok_t (ok_tl (ok_tl hst))) hlo hc hs hQ)
theorem aw_ior {x y : Int32} (hd : decode (mC M) pc = .ok (.ior, 1))  (k : AW G l M d post σ kk nn (pc + 1) L (xI (x ||| y) :: st)) : AW G l M d post σ kk nn pc L (xI y :: xI x :: st) := by
  intro p e R s m args below meth c Qc ad H ls locs cells slots C hR hL hst hlo hc hs hQ
  exact lv_ior C.1 C.2.1 hd (k p e R s m args below meth c Qc ad H ls locs cells slots C hR hL (ok_c ok_t (ok_tl (ok_tl hst))) hlo hc hs hQ)
theorem aw_ixor {x y : Int32} (hd : decode (mC M) pc = .ok (.ixor, 1))  (k : AW G l M d post σ kk nn (pc + 1) L (xI (x ^^^ y) :: st)) : AW G l M d post σ kk nn pc L (xI y :: xI x :: st) := by
  intro p e R s m args below meth c Qc ad H ls locs cells slots C hR hL hst hlo hc hs hQ
  exact lv_ixor C.1 C.2.1 hd (k p e R s m args below meth c Qc ad H ls locs cells slots C hR hL (ok_c ok_t (ok_tl (ok_tl hst))) hlo hc hs hQ)
theorem aw_ishl {x y : Int32} (hd : decode (mC M) pc = .ok (.ishl, 1))  (k : AW G l M d post σ kk nn (pc + 1) L (xI (x <<< (y &&& 31)) :: st)) : AW G l M d post σ kk nn pc L (xI y :: xI x :: st) := by
  intro p e R s m args below meth c Qc ad H ls locs cells slots C hR hL hst hlo hc hs hQ
  exact lv_ishl C.1 C.2.1 hd (k p e R s m args below meth c Qc ad H ls locs cells slots C hR hL (ok_c ok_t (ok_tl (ok_tl hst))) hlo hc hs hQ)
theorem aw_ishr {x y : Int32} (hd : decode (mC M) pc = .ok (.ishr, 1))  (k : AW G l M d post σ kk nn (pc + 1) L (xI (x >>> (y &&& 31)) :: st)) : AW G l M d post σ kk nn pc L (xI y :: xI x :: st) := by
  intro p e R s m args below meth c Qc ad H ls locs cells slots C hR hL hst hlo hc hs hQ
  exact lv_ishr C.1 C.2.1 hd (k p e R s m args below meth c Qc ad H ls locs cells slots C hR hL (ok_c ok_t (ok_tl (ok_tl hst))) hlo hc hs hQ)
theorem aw_iushr {x y v : Int32} (hd : decode (mC M) pc = .ok (.iushr, 1)) (hv : (x.toUInt32 >>> (y.toUInt32 &&& Int32.toUInt32 31)).toInt32 = v) (k : AW G l M d post σ kk nn (pc + 1) L (xI v :: st)) : AW G l M d post σ kk nn pc L (xI y :: xI x :: st) := by
  intro p e R s m args below meth c Qc ad H ls locs cells slots C hR hL hst hlo hc hs hQ
  exact lv_iushr C.1 C.2.1 hd hv (k p e R s m args below meth c Qc ad H ls locs cells slots C hR hL (ok_c ok_t (ok_tl (ok_tl hst))) hlo hc hs hQ)
theorem aw_idiv {x y : Int32} (hd : decode (mC M) pc = .ok (.idiv, 1)) (hne : ¬ y = 0) (k : AW G l M d post σ kk nn (pc + 1) L (xI (x / y) :: st)) : AW G l M d post σ kk nn pc L (xI y :: xI x :: st) := by
  intro p e R s m args below meth c Qc ad H ls locs cells slots C hR hL hst hlo hc hs hQ
  exact lv_idiv C.1 C.2.1 hd hne (k p e R s m args below meth c Qc ad H ls locs cells slots C hR hL (ok_c ok_t (ok_tl (ok_tl hst))) hlo hc hs hQ)
theorem aw_irem {x y : Int32} (hd : decode (mC M) pc = .ok (.irem, 1)) (hne : ¬ y = 0) (k : AW G l M d post σ kk nn (pc + 1) L (xI (x - x / y * y) :: st)) : AW G l M d post σ kk nn pc L (xI y :: xI x :: st) := by
  intro p e R s m args below meth c Qc ad H ls locs cells slots C hR hL hst hlo hc hs hQ
  exact lv_irem C.1 C.2.1 hd hne (k p e R s m args below meth c Qc ad H ls locs cells slots C hR hL (ok_c ok_t (ok_tl (ok_tl hst))) hlo hc hs hQ)
theorem aw_ladd {x y : Int64} (hd : decode (mC M) pc = .ok (.ladd, 1))  (k : AW G l M d post σ kk nn (pc + 1) L (xL (x + y) :: st)) : AW G l M d post σ kk nn pc L (xL y :: xL x :: st) := by
  intro p e R s m args below meth c Qc ad H ls locs cells slots C hR hL hst hlo hc hs hQ
  exact lv_ladd C.1 C.2.1 hd (k p e R s m args below meth c Qc ad H ls locs cells slots C hR hL (ok_c ok_tL (ok_tl (ok_tl hst))) hlo hc hs hQ)
theorem aw_land {x y : Int64} (hd : decode (mC M) pc = .ok (.land, 1))  (k : AW G l M d post σ kk nn (pc + 1) L (xL (x &&& y) :: st)) : AW G l M d post σ kk nn pc L (xL y :: xL x :: st) := by
  intro p e R s m args below meth c Qc ad H ls locs cells slots C hR hL hst hlo hc hs hQ
  exact lv_land C.1 C.2.1 hd (k p e R s m args below meth c Qc ad H ls locs cells slots C hR hL (ok_c ok_tL (ok_tl (ok_tl hst))) hlo hc hs hQ)
theorem aw_lor {x y : Int64} (hd : decode (mC M) pc = .ok (.lor, 1))  (k : AW G l M d post σ kk nn (pc + 1) L (xL (x ||| y) :: st)) : AW G l M d post σ kk nn pc L (xL y :: xL x :: st) := by
  intro p e R s m args below meth c Qc ad H ls locs cells slots C hR hL hst hlo hc hs hQ
  exact lv_lor C.1 C.2.1 hd (k p e R s m args below meth c Qc ad H ls locs cells slots C hR hL (ok_c ok_tL (ok_tl (ok_tl hst))) hlo hc hs hQ)
theorem aw_lxor {x y : Int64} (hd : decode (mC M) pc = .ok (.lxor, 1))  (k : AW G l M d post σ kk nn (pc + 1) L (xL (x ^^^ y) :: st)) : AW G l M d post σ kk nn pc L (xL y :: xL x :: st) := by
  intro p e R s m args below meth c Qc ad H ls locs cells slots C hR hL hst hlo hc hs hQ
  exact lv_lxor C.1 C.2.1 hd (k p e R s m args below meth c Qc ad H ls locs cells slots C hR hL (ok_c ok_tL (ok_tl (ok_tl hst))) hlo hc hs hQ)
theorem aw_lushr {x v : Int64} {y : Int32} (hd : decode (mC M) pc = .ok (.lushr, 1)) (hv : (x.toUInt64 >>> (y.toInt64.toUInt64 &&& Int64.toUInt64 63)).toInt64 = v) (k : AW G l M d post σ kk nn (pc + 1) L (xL v :: st)) : AW G l M d post σ kk nn pc L (xI y :: xL x :: st) := by
  intro p e R s m args below meth c Qc ad H ls locs cells slots C hR hL hst hlo hc hs hQ
  exact lv_lushr C.1 C.2.1 hd hv (k p e R s m args below meth c Qc ad H ls locs cells slots C hR hL (ok_c ok_tL (ok_tl (ok_tl hst))) hlo hc hs hQ)
theorem aw_lshl {x v : Int64} {y : Int32} (hd : decode (mC M) pc = .ok (.lshl, 1)) (hv : x <<< (y.toInt64 &&& 63) = v) (k : AW G l M d post σ kk nn (pc + 1) L (xL v :: st)) : AW G l M d post σ kk nn pc L (xI y :: xL x :: st) := by
  intro p e R s m args below meth c Qc ad H ls locs cells slots C hR hL hst hlo hc hs hQ
  exact lv_lshl C.1 C.2.1 hd hv (k p e R s m args below meth c Qc ad H ls locs cells slots C hR hL (ok_c ok_tL (ok_tl (ok_tl hst))) hlo hc hs hQ)
theorem aw_lcmp {x y : Int64} (hd : decode (mC M) pc = .ok (.lcmp, 1))  (k : AW G l M d post σ kk nn (pc + 1) L (xI (lg_cmp x y) :: st)) : AW G l M d post σ kk nn pc L (xL y :: xL x :: st) := by
  intro p e R s m args below meth c Qc ad H ls locs cells slots C hR hL hst hlo hc hs hQ
  exact W.lcmp C.1 C.2.1 hd (k p e R s m args below meth c Qc ad H ls locs cells slots C hR hL (ok_c ok_t (ok_tl (ok_tl hst))) hlo hc hs hQ)
theorem aw_i2l {x : Int32} {v : Int64} (hd : decode (mC M) pc = .ok (.i2l, 1)) (hv : x.toInt64 = v) (k : AW G l M d post σ kk nn (pc + 1) L (xL v :: st)) : AW G l M d post σ kk nn pc L (xI x :: st) := by
  intro p e R s m args below meth c Qc ad H ls locs cells slots C hR hL hst hlo hc hs hQ
  exact lv_i2l C.1 C.2.1 hd hv (k p e R s m args below meth c Qc ad H ls locs cells slots C hR hL (ok_c ok_tL (ok_tl hst)) hlo hc hs hQ)
theorem aw_i2b {x v : Int32} (hd : decode (mC M) pc = .ok (.i2b, 1)) (hv : x.toInt8.toInt32 = v) (k : AW G l M d post σ kk nn (pc + 1) L (xI v :: st)) : AW G l M d post σ kk nn pc L (xI x :: st) := by
  intro p e R s m args below meth c Qc ad H ls locs cells slots C hR hL hst hlo hc hs hQ
  exact lv_i2b C.1 C.2.1 hd hv (k p e R s m args below meth c Qc ad H ls locs cells slots C hR hL (ok_c ok_t (ok_tl hst)) hlo hc hs hQ)
theorem aw_i2c {x v : Int32} (hd : decode (mC M) pc = .ok (.i2c, 1)) (hv : (x.toUInt32 % 65536).toInt32 = v) (k : AW G l M d post σ kk nn (pc + 1) L (xI v :: st)) : AW G l M d post σ kk nn pc L (xI x :: st) := by
  intro p e R s m args below meth c Qc ad H ls locs cells slots C hR hL hst hlo hc hs hQ
  exact lv_i2c C.1 C.2.1 hd hv (k p e R s m args below meth c Qc ad H ls locs cells slots C hR hL (ok_c ok_t (ok_tl hst)) hlo hc hs hQ)
theorem aw_dupR {r : Option Nm} (hd : decode (mC M) pc = .ok (.dup, 1))  (k : AW G l M d post σ kk nn (pc + 1) L (xR r :: xR r :: st)) : AW G l M d post σ kk nn pc L (xR r :: st) := by
  intro p e R s m args below meth c Qc ad H ls locs cells slots C hR hL hst hlo hc hs hQ
  exact lv_dup C.1 C.2.1 hd (cv_cat1 (v := xR r) (fun _ h => by cases h)) (k p e R s m args below meth c Qc ad H ls locs cells slots C hR hL (ok_c (ok_hd hst) hst) hlo hc hs hQ)
theorem aw_dupI {x : Int32} (hd : decode (mC M) pc = .ok (.dup, 1))  (k : AW G l M d post σ kk nn (pc + 1) L (xI x :: xI x :: st)) : AW G l M d post σ kk nn pc L (xI x :: st) := by
  intro p e R s m args below meth c Qc ad H ls locs cells slots C hR hL hst hlo hc hs hQ
  exact lv_dup C.1 C.2.1 hd rfl (k p e R s m args below meth c Qc ad H ls locs cells slots C hR hL (ok_c ok_t hst) hlo hc hs hQ)
theorem aw_dup2 {x : Int32} {r : Option Nm} (hd : decode (mC M) pc = .ok (.dup2, 1))  (k : AW G l M d post σ kk nn (pc + 1) L (xI x :: xR r :: xI x :: xR r :: st)) : AW G l M d post σ kk nn pc L (xI x :: xR r :: st) := by
  intro p e R s m args below meth c Qc ad H ls locs cells slots C hR hL hst hlo hc hs hQ
  exact lv_dup2_11 C.1 C.2.1 hd rfl (cv_cat1 (v := xR r) (fun _ h => by cases h)) (k p e R s m args below meth c Qc ad H ls locs cells slots C hR hL (ok_c ok_t (ok_c (ok_hd (ok_tl hst)) hst)) hlo hc hs hQ)
theorem aw_popI {x : Int32} (hd : decode (mC M) pc = .ok (.pop, 1))  (k : AW G l M d post σ kk nn (pc + 1) L st) : AW G l M d post σ kk nn pc L (xI x :: st) := by
  intro p e R s m args below meth c Qc ad H ls locs cells slots C hR hL hst hlo hc hs hQ
  exact lv_pop C.1 C.2.1 hd rfl (k p e R s m args below meth c Qc ad H ls locs cells slots C hR hL (ok_tl hst) hlo hc hs hQ)
theorem aw_popR {r : Option Nm} (hd : decode (mC M) pc = .ok (.pop, 1))  (k : AW G l M d post σ kk nn (pc + 1) L st) : AW G l M d post σ kk nn pc L (xR r :: st) := by
  intro p e R s m args below meth c Qc ad H ls locs cells slots C hR hL hst hlo hc hs hQ
  exact lv_pop C.1 C.2.1 hd (cv_cat1 (v := xR r) (fun _ h => by cases h)) (k p e R s m args below meth c Qc ad H ls locs cells slots C hR hL (ok_tl hst) hlo hc hs hQ)
theorem aw_dupx1R {r r2 : Option Nm} (hd : decode (mC M) pc = .ok (.dup_x1, 1))  (k : AW G l M d post σ kk nn (pc + 1) L (xR r :: xR r2 :: xR r :: st)) : AW G l M d post σ kk nn pc L (xR r :: xR r2 :: st) := by
  intro p e R s m args below meth c Qc ad H ls locs cells slots C hR hL hst hlo hc hs hQ
  exact lv_dup_x1 C.1 C.2.1 hd (cv_cat1 (v := xR r) (fun _ h => by cases h)) (cv_cat1 (v := xR r2) (fun _ h => by cases h)) (k p e R s m args below meth c Qc ad H ls locs cells slots C hR hL (ok_c (ok_hd hst) (ok_c (ok_hd (ok_tl hst)) (ok_c (ok_hd hst) (ok_tl (ok_tl hst))))) hlo hc hs hQ)
theorem aw_dupx1I {x : Int32} {r2 : Option Nm} (hd : decode (mC M) pc = .ok (.dup_x1, 1))  (k : AW G l M d post σ kk nn (pc + 1) L (xI x :: xR r2 :: xI x :: st)) : AW G l M d post σ kk nn pc L (xI x :: xR r2 :: st) := by
  intro p e R s m args below meth c Qc ad H ls locs cells slots C hR hL hst hlo hc hs hQ
  exact lv_dup_x1 C.1 C.2.1 hd rfl (cv_cat1 (v := xR r2) (fun _ h => by cases h)) (k p e R s m args below meth c Qc ad H ls locs cells slots C hR hL (ok_c ok_t (ok_c (ok_hd (ok_tl hst)) (ok_c ok_t (ok_tl (ok_tl hst))))) hlo hc hs hQ)
theorem aw_if_eq {x : Int32} {off : Int} {tgt : Nat} (hd : decode (mC M) pc = .ok (.ifCond .eq off, 3)) (ht : (pc : Int) + off = (tgt : Int)) (kt : x = 0 → AW G l M d post σ kk nn tgt L st) (kf : ¬ x = 0 → AW G l M d post σ kk nn (pc + 3) L st) : AW G l M d post σ kk nn pc L (xI x :: st) := by
  intro p e R s m args below meth c Qc ad H ls locs cells slots C hR hL hst hlo hc hs hQ
  exact lv_if_eq C.1 C.2.1 hd ht (fun h => kt h p e R s m args below meth c Qc ad H ls locs cells slots C hR hL (ok_tl hst) hlo hc hs hQ) (fun h => kf h p e R s m args below meth c Qc ad H ls locs cells slots C hR hL (ok_tl hst) hlo hc hs hQ)
theorem aw_if_ne {x : Int32} {off : Int} {tgt : Nat} (hd : decode (mC M) pc = .ok (.ifCond .ne off, 3)) (ht : (pc : Int) + off = (tgt : Int)) (kt : ¬ x = 0 → AW G l M d post σ kk nn tgt L st) (kf : x = 0 → AW G l M d post σ kk nn (pc + 3) L st) : AW G l M d post σ kk nn pc L (xI x :: st) := by
  intro p e R s m args below meth c Qc ad H ls locs cells slots C hR hL hst hlo hc hs hQ
  exact lv_if_ne C.1 C.2.1 hd ht (fun h => kt h p e R s m args below meth c Qc ad H ls locs cells slots C hR hL (ok_tl hst) hlo hc hs hQ) (fun h => kf h p e R s m args below meth c Qc ad H ls locs cells slots C hR hL (ok_tl hst) hlo hc hs hQ)
theorem aw_if_lt {x : Int32} {off : Int} {tgt : Nat} (hd : decode (mC M) pc = .ok (.ifCond .lt off, 3)) (ht : (pc : Int) + off = (tgt : Int)) (kt : x < 0 → AW G l M d post σ kk nn tgt L st) (kf : ¬ x < 0 → AW G l M d post σ kk nn (pc + 3) L st) : AW G l M d post σ kk nn pc L (xI x :: st) := by
  intro p e R s m args below meth c Qc ad H ls locs cells slots C hR hL hst hlo hc hs hQ
  exact lv_if_lt C.1 C.2.1 hd ht (fun h => kt h p e R s m args below meth c Qc ad H ls locs cells slots C hR hL (ok_tl hst) hlo hc hs hQ) (fun h => kf h p e R s m args below meth c Qc ad H ls locs cells slots C hR hL (ok_tl hst) hlo hc hs hQ)
theorem aw_if_ge {x : Int32} {off : Int} {tgt : Nat} (hd : decode (mC M) pc = .ok (.ifCond .ge off, 3)) (ht : (pc : Int) + off = (tgt : Int)) (kt : 0 ≤ x → AW G l M d post σ kk nn tgt L st) (kf : ¬ 0 ≤ x → AW G l M d post σ kk nn (pc + 3) L st) : AW G l M d post σ kk nn pc L (xI x :: st) := by
  intro p e R s m args below meth c Qc ad H ls locs cells slots C hR hL hst hlo hc hs hQ
  exact lv_if_ge C.1 C.2.1 hd ht (fun h => kt h p e R s m args below meth c Qc ad H ls locs cells slots C hR hL (ok_tl hst) hlo hc hs hQ) (fun h => kf h p e R s m args below meth c Qc ad H ls locs cells slots C hR hL (ok_tl hst) hlo hc hs hQ)
theorem aw_if_gt {x : Int32} {off : Int} {tgt : Nat} (hd : decode (mC M) pc = .ok (.ifCond .gt off, 3)) (ht : (pc : Int) + off = (tgt : Int)) (kt : 0 < x → AW G l M d post σ kk nn tgt L st) (kf : ¬ 0 < x → AW G l M d post σ kk nn (pc + 3) L st) : AW G l M d post σ kk nn pc L (xI x :: st) := by
  intro p e R s m args below meth c Qc ad H ls locs cells slots C hR hL hst hlo hc hs hQ
  exact lv_if_gt C.1 C.2.1 hd ht (fun h => kt h p e R s m args below meth c Qc ad H ls locs cells slots C hR hL (ok_tl hst) hlo hc hs hQ) (fun h => kf h p e R s m args below meth c Qc ad H ls locs cells slots C hR hL (ok_tl hst) hlo hc hs hQ)
theorem aw_if_le {x : Int32} {off : Int} {tgt : Nat} (hd : decode (mC M) pc = .ok (.ifCond .le off, 3)) (ht : (pc : Int) + off = (tgt : Int)) (kt : x ≤ 0 → AW G l M d post σ kk nn tgt L st) (kf : ¬ x ≤ 0 → AW G l M d post σ kk nn (pc + 3) L st) : AW G l M d post σ kk nn pc L (xI x :: st) := by
  intro p e R s m args below meth c Qc ad H ls locs cells slots C hR hL hst hlo hc hs hQ
  exact lv_if_le C.1 C.2.1 hd ht (fun h => kt h p e R s m args below meth c Qc ad H ls locs cells slots C hR hL (ok_tl hst) hlo hc hs hQ) (fun h => kf h p e R s m args below meth c Qc ad H ls locs cells slots C hR hL (ok_tl hst) hlo hc hs hQ)
theorem aw_icmp_eq {x y : Int32} {off : Int} {tgt : Nat} (hd : decode (mC M) pc = .ok (.if_icmp .eq off, 3)) (ht : (pc : Int) + off = (tgt : Int)) (kt : x = y → AW G l M d post σ kk nn tgt L st) (kf : ¬ x = y → AW G l M d post σ kk nn (pc + 3) L st) : AW G l M d post σ kk nn pc L (xI y :: xI x :: st) := by
  intro p e R s m args below meth c Qc ad H ls locs cells slots C hR hL hst hlo hc hs hQ
  exact lv_icmp_eq C.1 C.2.1 hd ht (fun h => kt h p e R s m args below meth c Qc ad H ls locs cells slots C hR hL (ok_tl (ok_tl hst)) hlo hc hs hQ) (fun h => kf h p e R s m args below meth c Qc ad H ls locs cells slots C hR hL (ok_tl (ok_tl hst)) hlo hc hs hQ)
theorem aw_icmp_ne {x y : Int32} {off : Int} {tgt : Nat} (hd : decode (mC M) pc = .ok (.if_icmp .ne off, 3)) (ht : (pc : Int) + off = (tgt : Int)) (kt : ¬ x = y → AW G l M d post σ kk nn tgt L st) (kf : x = y → AW G l M d post σ kk nn (pc + 3) L st) : AW G l M d post σ kk nn pc L (xI y :: xI x :: st) := by
  intro p e R s m args below meth c Qc ad H ls locs cells slots C hR hL hst hlo hc hs hQ
  exact lv_icmp_ne C.1 C.2.1 hd ht (fun h => kt h p e R s m args below meth c Qc ad H ls locs cells slots C hR hL (ok_tl (ok_tl hst)) hlo hc hs hQ) (fun h => kf h p e R s m args below meth c Qc ad H ls locs cells slots C hR hL (ok_tl (ok_tl hst)) hlo hc hs hQ)
theorem aw_icmp_lt {x y : Int32} {off : Int} {tgt : Nat} (hd : decode (mC M) pc = .ok (.if_icmp .lt off, 3)) (ht : (pc : Int) + off = (tgt : Int)) (kt : x < y → AW G l M d post σ kk nn tgt L st) (kf : ¬ x < y → AW G l M d post σ kk nn (pc + 3) L st) : AW G l M d post σ kk nn pc L (xI y :: xI x :: st) := by
  intro p e R s m args below meth c Qc ad H ls locs cells slots C hR hL hst hlo hc hs hQ
  exact lv_icmp_lt C.1 C.2.1 hd ht (fun h => kt h p e R s m args below meth c Qc ad H ls locs cells slots C hR hL (ok_tl (ok_tl hst)) hlo hc hs hQ) (fun h => kf h p e R s m args below meth c Qc ad H ls locs cells slots C hR hL (ok_tl (ok_tl hst)) hlo hc hs hQ)
theorem aw_icmp_ge {x y : Int32} {off : Int} {tgt : Nat} (hd : decode (mC M) pc = .ok (.if_icmp .ge off, 3)) (ht : (pc : Int) + off = (tgt : Int)) (kt : y ≤ x → AW G l M d post σ kk nn tgt L st) (kf : ¬ y ≤ x → AW G l M d post σ kk nn (pc + 3) L st) : AW G l M d post σ kk nn pc L (xI y :: xI x :: st) := by
  intro p e R s m args below meth c Qc ad H ls locs cells slots C hR hL hst hlo hc hs hQ
  exact lv_icmp_ge C.1 C.2.1 hd ht (fun h => kt h p e R s m args below meth c Qc ad H ls locs cells slots C hR hL (ok_tl (ok_tl hst)) hlo hc hs hQ) (fun h => kf h p e R s m args below meth c Qc ad H ls locs cells slots C hR hL (ok_tl (ok_tl hst)) hlo hc hs hQ)
theorem aw_icmp_gt {x y : Int32} {off : Int} {tgt : Nat} (hd : decode (mC M) pc = .ok (.if_icmp .gt off, 3)) (ht : (pc : Int) + off = (tgt : Int)) (kt : y < x → AW G l M d post σ kk nn tgt L st) (kf : ¬ y < x → AW G l M d post σ kk nn (pc + 3) L st) : AW G l M d post σ kk nn pc L (xI y :: xI x :: st) := by
  intro p e R s m args below meth c Qc ad H ls locs cells slots C hR hL hst hlo hc hs hQ
  exact lv_icmp_gt C.1 C.2.1 hd ht (fun h => kt h p e R s m args below meth c Qc ad H ls locs cells slots C hR hL (ok_tl (ok_tl hst)) hlo hc hs hQ) (fun h => kf h p e R s m args below meth c Qc ad H ls locs cells slots C hR hL (ok_tl (ok_tl hst)) hlo hc hs hQ)
theorem aw_icmp_le {x y : Int32} {off : Int} {tgt : Nat} (hd : decode (mC M) pc = .ok (.if_icmp .le off, 3)) (ht : (pc : Int) + off = (tgt : Int)) (kt : x ≤ y → AW G l M d post σ kk nn tgt L st) (kf : ¬ x ≤ y → AW G l M d post σ kk nn (pc + 3) L st) : AW G l M d post σ kk nn pc L (xI y :: xI x :: st) := by
  intro p e R s m args below meth c Qc ad H ls locs cells slots C hR hL hst hlo hc hs hQ
  exact lv_icmp_le C.1 C.2.1 hd ht (fun h => kt h p e R s m args below meth c Qc ad H ls locs cells slots C hR hL (ok_tl (ok_tl hst)) hlo hc hs hQ) (fun h => kf h p e R s m args below meth c Qc ad H ls locs cells slots C hR hL (ok_tl (ok_tl hst)) hlo hc hs hQ)
theorem aw_goto {off : Int} {tgt : Nat} (hd : decode (mC M) pc = .ok (.goto off, 3)) (ht : (pc : Int) + off = (tgt : Int)) (k : AW G l M d post σ kk nn tgt L st) : AW G l M d post σ kk nn pc L st := by
  intro p e R s m args below meth c Qc ad H ls locs cells slots C hR hL hst hlo hc hs hQ
  exact lv_goto C.1 C.2.1 hd ht (k p e R s m args below meth c Qc ad H ls locs cells slots C hR hL hst hlo hc hs hQ)
theorem aw_ifnull {r : Option Nm} {off : Int} {tgt : Nat} (hd : decode (mC M) pc = .ok (.ifnull off, 3)) (ht : (pc : Int) + off = (tgt : Int)) (kt : r = none → AW G l M d post σ kk nn tgt L st) (kf : ∀ n, r = some n → AW G l M d post σ kk nn (pc + 3) L st) : AW G l M d post σ kk nn pc L (xR r :: st) := by
  intro p e R s m args below meth c Qc ad H ls locs cells slots C hR hL hst hlo hc hs hQ
  cases r with
  | none => exact lv_ifnullN C.1 C.2.1 hd ht (kt rfl p e R s m args below meth c Qc ad H ls locs cells slots C hR hL (ok_tl hst) hlo hc hs hQ)
  | some n => exact lv_ifnull C.1 C.2.1 hd (kf n rfl p e R s m args below meth c Qc ad H ls locs cells slots C hR hL (ok_tl hst) hlo hc hs hQ)
theorem aw_ifnonnull {r : Option Nm} {off : Int} {tgt : Nat} (hd : decode (mC M) pc = .ok (.ifnonnull off, 3)) (ht : (pc : Int) + off = (tgt : Int)) (kt : ∀ n, r = some n → AW G l M d post σ kk nn tgt L st) (kf : r = none → AW G l M d post σ kk nn (pc + 3) L st) : AW G l M d post σ kk nn pc L (xR r :: st) := by
  intro p e R s m args below meth c Qc ad H ls locs cells slots C hR hL hst hlo hc hs hQ
  cases r with
  | none => exact lv_ifnonnullN C.1 C.2.1 hd (kf rfl p e R s m args below meth c Qc ad H ls locs cells slots C hR hL (ok_tl hst) hlo hc hs hQ)
  | some n => exact lv_ifnonnull C.1 C.2.1 hd ht (kt n rfl p e R s m args below meth c Qc ad H ls locs cells slots C hR hL (ok_tl hst) hlo hc hs hQ)
theorem aw_switchIn {dflt lo hi : Int} {offs : Array Int} {len : Nat} {x : Int32} {off : Int} {tgt : Nat} (hd : decode (mC M) pc = .ok (.tableswitch dflt lo hi offs, len)) (h1 : ¬ x.toInt < lo) (h2 : ¬ hi < x.toInt) (ho : offs[(x.toInt - lo).toNat]? = some off) (ht : (pc : Int) + off = (tgt : Int)) (k : AW G l M d post σ kk nn tgt L st) : AW G l M d post σ kk nn pc L (xI x :: st) := by
  intro p e R s m args below meth c Qc ad H ls locs cells slots C hR hL hst hlo hc hs hQ
  exact lv_tableIn C.1 C.2.1 hd h1 h2 ho ht (k p e R s m args below meth c Qc ad H ls locs cells slots C hR hL (ok_tl hst) hlo hc hs hQ)
theorem aw_switchOut {dflt lo hi : Int} {offs : Array Int} {len : Nat} {x : Int32} {tgt : Nat} (hd : decode (mC M) pc = .ok (.tableswitch dflt lo hi offs, len)) (h : x.toInt < lo ∨ hi < x.toInt) (ht : (pc : Int) + dflt = (tgt : Int)) (k : AW G l M d post σ kk nn tgt L st) : AW G l M d post σ kk nn pc L (xI x :: st) := by
  intro p e R s m args below meth c Qc ad H ls locs cells slots C hR hL hst hlo hc hs hQ
  exact lv_tableOut C.1 C.2.1 hd h ht (k p e R s m args below meth c Qc ad H ls locs cells slots C hR hL (ok_tl hst) hlo hc hs hQ)
end ROWS1
