/-! What is known of the launch; walks in words of states. -/
def jsB : List (List Int32) := [[115, 99, 101, 110, 101], [97, 116], [102, 111, 114], [119, 97, 110, 116], [110, 111, 116], [97, 110, 121, 111, 110, 101], [108, 111, 111, 107], [104, 111, 109, 101], [115, 101, 101, 110], [97, 103, 101], [116, 97, 108, 108], [97, 110, 100], [111, 114], [98, 97, 115, 101], [111, 118, 101, 114], [98, 101, 102, 111, 114, 101], [97, 102, 116, 101, 114], [101, 97, 99, 104], [117, 112], [100, 111, 119, 110], [110, 111, 32, 115, 117, 99, 104, 32, 112, 101, 114, 115, 111, 110, 44, 32, 115, 99, 101, 110, 101, 32, 111, 114, 32, 110, 117, 109, 98, 101, 114, 32, 111, 102, 32, 102, 97, 99, 116, 115]]
def strW : List (String × Nat × String × Nat) := [("ExtrasOffice$AskReader", 36, "scene", 0), ("ExtrasOffice$AskReader", 78, "at", 1), ("ExtrasOffice$AskReader", 83, "for", 2), ("ExtrasOffice$AskReader", 88, "want", 3), ("ExtrasOffice$AskReader", 107, "not", 4), ("ExtrasOffice$AskReader", 129, "anyone", 5), ("ExtrasOffice$AskReader", 131, "look", 6), ("ExtrasOffice$AskReader", 133, "home", 7), ("ExtrasOffice$AskReader", 135, "seen", 8), ("ExtrasOffice$AskReader", 137, "age", 9), ("ExtrasOffice$AskReader", 139, "tall", 10), ("ExtrasOffice$AskReader", 99, "and", 11), ("ExtrasOffice$AskReader", 102, "or", 12), ("ExtrasOffice$Term", 15, "base", 13), ("ExtrasOffice$Term", 23, "over", 14), ("ExtrasOffice$Term", 25, "before", 15), ("ExtrasOffice$Term", 27, "after", 16), ("ExtrasOffice$Term", 40, "each", 17), ("ExtrasOffice$Term", 46, "up", 18), ("ExtrasOffice$Term", 52, "down", 19), ("ExtrasOffice", 209, "no such person, scene or number of facts", 20), ("ExtrasOfficeModel", 276, "scene", 0), ("ExtrasOfficeModel", 280, "at", 1), ("ExtrasOfficeModel", 284, "for", 2), ("ExtrasOfficeModel", 286, "want", 3), ("ExtrasOfficeModel", 248, "not", 4), ("ExtrasOfficeModel", 256, "anyone", 5), ("ExtrasOfficeModel", 258, "look", 6), ("ExtrasOfficeModel", 270, "home", 7), ("ExtrasOfficeModel", 271, "seen", 8), ("ExtrasOfficeModel", 273, "age", 9), ("ExtrasOfficeModel", 274, "tall", 10), ("ExtrasOfficeModel", 246, "and", 11), ("ExtrasOfficeModel", 241, "or", 12), ("ExtrasOfficeModel", 337, "base", 13), ("ExtrasOfficeModel", 339, "over", 14), ("ExtrasOfficeModel", 341, "before", 15), ("ExtrasOfficeModel", 343, "after", 16), ("ExtrasOfficeModel", 348, "each", 17), ("ExtrasOfficeModel", 350, "up", 18), ("ExtrasOfficeModel", 352, "down", 19)]
def castW : List String := ["ExtrasOffice", "java/util/ArrayList", "ExtrasOffice$Row", "ExtrasOffice$Tokens", "ExtrasOffice$AskReader", "ExtrasOffice$Facts", "ExtrasOffice$Plan", "ExtrasOffice$Dressing", "ExtrasOfficeModel", "ExtrasOffice$Person", "ExtrasOffice$Ask", "ExtrasOffice$Agreement", "ExtrasOffice$Term", "ExtrasOffice$Turn", "java/util/NoSuchElementException", "java/lang/Throwable", "java/lang/String", "[I", "[Ljava/lang/Object;", "[B", "[Z", "[J"]
def nestW : List (String × Nat × MethodName × String) := [("ExtrasOffice", 48, yX4_init, "ExtrasOffice"), ("ExtrasOffice", 64, yX3_init, "ExtrasOffice"), ("ExtrasOffice$Tokens", 71, yX11_within, "ExtrasOffice")]
def gA0 (G : GG) : Nat → Prop := fun q => gB G ≤ q
def jsOK (G : GG) (U : State) : Prop := ∀ i, i < 21 → va_O "java/lang/String" (gF G 30 i) (gA0 G) U (gH G) ∧ va_OF "java/lang/String" "coder" "B" (.int 0) (gF G 30 i) (gA0 G) U (gH G) ∧ va_OF "java/lang/String" "value" "[B" (.ref (gV G i)) (gF G 30 i) (gA0 G) U (gH G) ∧ va_T .byte (gV G i) (jsB.getD i []).length (fun j => .int ((jsB.getD i []).getD j 0)) (gA0 G) U (gH G)
def KK (G : GG) (U : State) : Prop := va_K G.1 vwCl (tysG G) U ∧ (∀ q ∈ nestW, va_Nw (.methodLinkNest q.1 q.2.1 q.2.2.1 q.2.2.2) U) ∧ (∀ C ∈ castW, va_Nw (.castable C "java/lang/Object") U) ∧ (va_Dc U ∧ va_AO "java/lang/Object" U ∧ va_Mi "[Ljava/lang/Object;" (gF G 31 0) U) ∧ jsOK G U ∧ (∀ q ∈ strW, vk_R q.1 q.2.1 q.2.2.1 (gF G 30 q.2.2.2) U) ∧ va_Z "java/util/ArrayList" "DEFAULTCAPACITY_EMPTY_ELEMENTDATA" "[Ljava/lang/Object;" (.ref (gF G 23 0)) (gA0 G) U (gH G) ∧ va_Z "java/lang/String" "COMPACT_STRINGS" "Z" (.int 1) (gA0 G) U (gH G) ∧ va_Zq "jdk/internal/util/Preconditions" "SIOOBE_FORMATTER" "Ljava/util/function/BiFunction;" (gA0 G) U (gH G)
theorem KK.warm {G : GG} {s U : State} (hW : s.WarmedH U.vm) (h : KK G s) : KK G U := by
  obtain ⟨h1, h2, h3, ⟨h4, h5, h6⟩, h7, h8, h9, h10, h11⟩ := h
  exact ⟨va_K.moved hW.alike h1, fun q hq => va_Nw.warmM hW (h2 q hq), fun C hC => va_Nw.warmC hW (h3 C hC), ⟨h4.moved hW.alike, h5.moved hW.alike, h6.moved hW.alike⟩, fun i hi => ⟨va_O.moved hW.alike (h7 i hi).1, va_OF.moved hW.alike (h7 i hi).2.1, va_OF.moved hW.alike (h7 i hi).2.2.1, va_T.moved hW.alike (h7 i hi).2.2.2⟩, fun q hq => vk_R.warm hW (h8 q hq), va_Z.moved hW.alike h9, va_Z.moved hW.alike h10, va_Zq.moved hW.alike h11⟩
theorem KK.same {G : GG} {u U : State} (hv : u.vm = U.vm) (h : KK G u) : KK G U := by
  obtain ⟨h1, h2, h3, ⟨h4, h5, h6⟩, h7, h8, h9, h10, h11⟩ := h
  have hA : u.vm.Alike U.vm := by rw [hv]; exact Vm.Alike.refl U.vm
  exact ⟨va_K.moved hA h1, fun q hq => va_Nw.same rfl hv (h2 q hq), fun C hC => va_Nw.same rfl hv (h3 C hC), ⟨h4.moved hA, h5.moved hA, h6.moved hA⟩, fun i hi => ⟨va_O.moved hA (h7 i hi).1, va_OF.moved hA (h7 i hi).2.1, va_OF.moved hA (h7 i hi).2.2.1, va_T.moved hA (h7 i hi).2.2.2⟩, fun q hq => vk_R.same hv.symm (h8 q hq), va_Z.moved hA h9, va_Z.moved hA h10, va_Zq.moved hA h11⟩
/-- a method: name, code, locals, what it answers -/
abbrev Mth : Type := MethodName × ByteArray × Nat × Option FieldType
def mY (M : Mth) : MethodName := M.1
def mC (M : Mth) : ByteArray := M.2.1
def mL (M : Mth) : Nat := M.2.2.1
def mR (M : Mth) : Option FieldType := M.2.2.2
def mO (M : Mth) : String := M.1.cls
def Cx (G : GG) (M : Mth) (d : Nat) (p : Program) (R : Room) (s : State) (m : MethodId) (args : Array Value) (meth : Method) (c : Code) : Prop :=
  p.tables.exec = Jvm.exec ∧ c.code = mC M ∧ c.maxLocals = mL M ∧ meth.sig.returnType = mR M ∧ s.vm.findClass (mO M) = some m.cls ∧ (∀ w ∈ TW, w.before args s = true) ∧ meth.locks = false ∧ meth.name = (mY M).name ∧ KK G s ∧ d ≤ R.frames ∧ 41 * d ≤ R.locals
/-- the walk from here on ends, with 'post' of its answer and of the state, making at most k objects of n slots -/
def AW (G : GG) (l : Launch) (M : Mth) (d : Nat) (post : Option AVal → AS → Prop) (σ : AS) (kk nn pc : Nat) (L : List (Option AVal)) (st : List AVal) : Prop :=
  ∀ (p : Program) (e : Env) (R : Room) (s : State) (m : MethodId) (args : Array Value) (below : List Frame) (meth : Method) (c : Code) (Qc : Array Value → State → Outcome → State → Prop) (ad : Nat → Nat → Nat) (H : Heap) (ls : Array Slot) (locs : List Loc) (cells slots : Nat),
    Cx G M d p R s m args meth c → Rep G ad σ H → LR σ ad (mL M) L ls → (∀ v ∈ st, okv σ v) → (∀ q ∈ locs, gB G ≤ q.base) → cells + kk ≤ R.cells → slots + nn ≤ R.slots →
    (∀ (v : Option AVal) (ad' : Nat → Nat → Nat) (σ' : AS) (t : State), s.WarmedH t.vm → Rep G ad' σ' t.heap → Ext σ ad σ' ad' → (∀ w ∈ v, okv σ' w) → post v σ' → Qc args s (.returned (v.map (cv ad'))) t) →
    W p l e R s m args below meth c H locs cells slots (MQ below Qc args s R.cells R.slots (gA0 G)) (F0 m pc ls (st.map (cv ad)))
/-- a method's contract: from state σ with these arguments it returns, with 'post' -/
def AMet (G : GG) (l : Launch) (M : Mth) (d mc ms : Nat) (as : List AVal) (σ : AS) (post : Option AVal → AS → Prop) : Prop :=
  ∀ ad : Nat → Nat → Nat, Met l (mY M) (.code (mY M) (mC M) (mL M) (mR M) :: TW) { frames := d, cells := mc, slots := ms, locals := 41 * d } (fun v U => v = (as.map (cv ad)).toArray ∧ Rep G ad σ U.heap ∧ (∀ v ∈ as, okv σ v) ∧ KK G U) (fun _ st o t => ∃ (v : Option AVal) (ad' : Nat → Nat → Nat) (σ' : AS), o = .returned (v.map (cv ad')) ∧ Rep G ad' σ' t.heap ∧ Ext σ ad σ' ad' ∧ (∀ w ∈ v, okv σ' w) ∧ post v σ') mc ms (gA0 G)
/-- the locals at the entry -/
def largs : List AVal → List (Option AVal)
  | [] => []
  | v :: vs => match v with
    | .inr (.inl x) => some (.inr (.inl x)) :: none :: largs vs
    | v => some v :: largs vs
def lpad : Nat → List (Option AVal) → List (Option AVal)
  | 0, _ => []
  | n + 1, [] => none :: lpad n []
  | n + 1, a :: L => a :: lpad n L
theorem lget_lpad : ∀ (n : Nat) (L : List (Option AVal)) (i : Nat) (v : AVal), lget (lpad n L) i = some v → lget L i = some v
  | 0, L, i, v, h => by cases h
  | n + 1, [], 0, v, h => by cases h
  | n + 1, [], i + 1, v, h => by
    have := lget_lpad n [] i v h
    cases this
  | n + 1, a :: L, 0, v, h => h
  | n + 1, a :: L, i + 1, v, h => lget_lpad n L i v h
theorem lget_largs (ad : Nat → Nat → Nat) : ∀ (vs : List AVal) (i : Nat) (v : AVal), lget (largs vs) i = some v → (lg_sl (vs.map (cv ad)))[i]? = some (.val (cv ad v)) ∧ v ∈ vs
  | [], i, v, h => by cases h
  | .inl x :: vs, 0, v, h => by cases h; exact ⟨rfl, List.mem_cons_self⟩
  | .inl x :: vs, i + 1, v, h => by
    obtain ⟨a, b⟩ := lget_largs ad vs i v h
    exact ⟨a, List.mem_cons_of_mem _ b⟩
  | .inr (.inl x) :: vs, 0, v, h => by cases h; exact ⟨rfl, List.mem_cons_self⟩
  | .inr (.inl x) :: vs, 1, v, h => by cases h
  | .inr (.inl x) :: vs, i + 2, v, h => by
    obtain ⟨a, b⟩ := lget_largs ad vs i v h
    exact ⟨a, List.mem_cons_of_mem _ b⟩
  | .inr (.inr none) :: vs, 0, v, h => by cases h; exact ⟨rfl, List.mem_cons_self⟩
  | .inr (.inr none) :: vs, i + 1, v, h => by
    obtain ⟨a, b⟩ := lget_largs ad vs i v h
    exact ⟨a, List.mem_cons_of_mem _ b⟩
  | .inr (.inr (some r)) :: vs, 0, v, h => by cases h; exact ⟨rfl, List.mem_cons_self⟩
  | .inr (.inr (some r)) :: vs, i + 1, v, h => by
    obtain ⟨a, b⟩ := lget_largs ad vs i v h
    exact ⟨a, List.mem_cons_of_mem _ b⟩
theorem llen_largs (ad : Nat → Nat → Nat) : ∀ (vs : List AVal), (lg_sl (vs.map (cv ad))).length = (largs vs).length
  | [] => rfl
  | .inl x :: vs => congrArg (· + 1) (llen_largs ad vs)
  | .inr (.inl x) :: vs => congrArg (· + 2) (llen_largs ad vs)
  | .inr (.inr none) :: vs => congrArg (· + 1) (llen_largs ad vs)
  | .inr (.inr (some r)) :: vs => congrArg (· + 1) (llen_largs ad vs)
theorem KK.blind {G : GG} {U : State} {g : JFrame} {mk : MethodId} {a : Array Value} (h : KK G U) : KK G (U.calling g mk a) := KK.same (u := U) rfl h
set_option maxHeartbeats 1000000 in
theorem AMet.of {G : GG} {l : Launch} {M : Mth} {d mc ms : Nat} {as : List AVal} {σ : AS} {post : Option AVal → AS → Prop} (hy : plainName (mY M).cls = true) (hl : (largs as).length ≤ mL M) (h : AW G l M d post σ mc ms 0 (lpad (mL M) (largs as)) []) : AMet G l M d mc ms as σ post := by
  intro ad
  refine Met.ofW (cc := mC M) (maxL := mL M) (ret := mR M) hy rfl ?_
  intro p e s m args below meth c s₁ B hml hv
  obtain ⟨rfl, hR, hok, hK⟩ := hv
  have hts : ∀ w ∈ (Cond.code (mY M) (mC M) (mL M) (mR M) :: TW), w.before ((as.map (cv ad)).toArray) s = true := atoms_spec B.pre
  have hown : s.vm.findClass (mY M).cls = some m.cls := findClass_of_methodNamed B.named
  rw [lg_entry_eq]
  have hle := lv_entry (as.map (cv ad)) (n := mL M) (by rw [llen_largs]; exact hl)
  refine h p e _ s m _ below meth c _ ad s.heap _ [] 0 0 ⟨B.exec, B.bytes, hml, B.returns, hown, fun w hw => hts w (List.mem_cons_of_mem _ hw), B.notSynchronized, (name_of_methodNamed B.named B.method).1, hK, Nat.le_refl _, Nat.le_refl _⟩ hR ⟨hle.1, hle.2.1, fun i v hi => ?_⟩ (fun _ h => by cases h) (fun _ h => by cases h) (by show 0 + mc ≤ mc; omega) (by show 0 + ms ≤ ms; omega) (fun v ad' σ' t hW hR' hE hok' hp => ⟨v, ad', σ', rfl, hR', hE, hok', hp⟩)
  obtain ⟨a, b⟩ := lget_largs ad as i v (lget_lpad _ _ _ _ hi)
  refine ⟨?_, hok v b⟩
  rw [List.getElem?_toArray, List.getElem?_append_left (List.getElem?_eq_some_iff.mp a).1]
  exact a
theorem AMet.mono {G : GG} {l : Launch} {M : Mth} {d mc ms : Nat} {as : List AVal} {σ : AS} {post post' : Option AVal → AS → Prop} (h : AMet G l M d mc ms as σ post) (hp : ∀ v σ', post v σ' → post' v σ') : AMet G l M d mc ms as σ post' := by
  intro ad
  sorry

