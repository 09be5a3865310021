/-! What never changes once the two objects are made: who refers to whom, how long the arrays are. Rows of calls that make nothing. -/
def stTab : List (Nat × Nat × Nat × Nat × Nat) := [(3, 0, 0, 10, 0), (3, 1, 0, 8, 1), (4, 0, 0, 0, 3), (4, 1, 0, 0, 4), (4, 2, 0, 20, 5), (5, 0, 0, 8, 2), (5, 1, 0, 8, 3), (7, 1, 0, 8, 4), (7, 2, 0, 0, 0), (8, 0, 0, 20, 0), (8, 0, 1, 20, 1), (8, 0, 2, 20, 2), (8, 0, 3, 20, 3), (8, 0, 4, 20, 4), (8, 0, 5, 20, 6), (10, 2, 0, 8, 0), (12, 0, 0, 0, 0), (12, 1, 0, 8, 0), (12, 2, 0, 10, 0), (12, 3, 0, 3, 0), (12, 4, 0, 0, 1), (12, 5, 0, 5, 0), (12, 6, 0, 7, 0), (12, 7, 0, 4, 0), (12, 8, 0, 0, 5), (12, 9, 0, 8, 5), (13, 3, 0, 26, 0), (13, 4, 0, 26, 1), (13, 5, 0, 26, 2), (13, 6, 0, 26, 3), (13, 7, 0, 26, 4), (13, 8, 0, 21, 0), (13, 9, 0, 26, 5), (13, 10, 0, 26, 6), (13, 11, 0, 26, 7), (13, 14, 0, 26, 8), (13, 15, 0, 26, 9), (13, 16, 0, 22, 0), (13, 30, 0, 22, 1), (13, 32, 0, 26, 10), (13, 33, 0, 26, 11), (13, 34, 0, 26, 12), (13, 35, 0, 26, 13), (13, 36, 0, 26, 14), (13, 38, 0, 26, 15), (13, 39, 0, 26, 16), (13, 40, 0, 26, 17), (13, 41, 0, 26, 18), (13, 42, 0, 26, 19), (13, 43, 0, 26, 20), (13, 44, 0, 21, 1), (13, 45, 0, 26, 21), (13, 46, 0, 21, 2), (13, 47, 0, 26, 22), (13, 50, 0, 26, 23), (13, 51, 0, 26, 24), (13, 52, 0, 26, 25), (13, 53, 0, 26, 26), (13, 54, 0, 21, 3), (13, 56, 0, 26, 27), (13, 57, 0, 26, 28), (13, 58, 0, 26, 29), (13, 59, 0, 26, 30), (13, 60, 0, 26, 31), (13, 61, 0, 26, 32), (13, 62, 0, 26, 33), (13, 63, 0, 21, 4), (13, 64, 0, 26, 34), (13, 65, 0, 26, 35), (13, 66, 0, 26, 36)]
def lenTab : List (Nat × Nat × Nat) := [(20, 0, 1000), (20, 1, 1000), (20, 2, 2600), (20, 3, 2600), (20, 4, 6), (20, 5, 5), (20, 6, 40), (21, 0, 40), (21, 1, 40), (21, 2, 40), (21, 3, 240), (21, 4, 40), (22, 0, 1000), (22, 1, 1000), (26, 0, 40), (26, 1, 40), (26, 2, 40), (26, 3, 40), (26, 4, 40), (26, 5, 40), (26, 6, 40), (26, 7, 40), (26, 8, 2600), (26, 9, 2600), (26, 10, 6), (26, 11, 6), (26, 12, 6), (26, 13, 6), (26, 14, 6), (26, 15, 6), (26, 16, 6), (26, 17, 6), (26, 18, 6), (26, 19, 6), (26, 20, 40), (26, 21, 6), (26, 22, 40), (26, 23, 30), (26, 24, 240), (26, 25, 240), (26, 26, 240), (26, 27, 2400), (26, 28, 2400), (26, 29, 2400), (26, 30, 2400), (26, 31, 2400), (26, 32, 2400), (26, 33, 5), (26, 34, 40), (26, 35, 40), (26, 36, 40)]
def St (σ : AS) : Prop := (∀ t ∈ stTab, gR σ t.1 t.2.1 t.2.2.1 = some t.2.2.2 ∧ t.2.2.1 < cnt σ t.1) ∧ (∀ t ∈ lenTab, gN σ t.1 t.2.1 = t.2.2 ∧ t.2.1 < cnt σ t.1)
theorem St.get {σ : AS} (h : St σ) (c f i K j : Nat) (hm : (c, f, i, K, j) ∈ stTab) : gR σ c f i = some (K, j) := (h.1 _ hm).1
theorem St.len {σ : AS} (h : St σ) (K j n : Nat) (hm : (K, j, n) ∈ lenTab) : gN σ K j = n := (h.2 _ hm).1
theorem St.sI {σ : AS} {c f i : Nat} {v : Int32} (h : St σ) : St (sI σ c f i v) := h
theorem St.sA {σ : AS} {c f i : Nat} {v : Int32} (h : St σ) : St (sA σ c f i v) := h
theorem St.sQ {σ : AS} {c f i : Nat} {v : Option Nm} (h : St σ) : St (sQ σ c f i v) := h
theorem St.sL {σ : AS} {c f i : Nat} {v : Int64} (h : St σ) : St (sL σ c f i v) := h
theorem St.cpy {σ : AS} {a b c e f : Nat} (h : St σ) : St (cpyS σ a b c e f) := h
theorem St.sR {σ : AS} {c f i : Nat} {v : Option Nm} (h : St σ) (hn : (stTab.all fun t => !(t.1 == c && t.2.1 == f)) = true) : St (sR σ c f i v) := by
  refine ⟨fun t ht => ?_, h.2⟩
  have h1 := List.all_eq_true.mp hn t ht
  rw [gR_sR, if_neg (fun e => by simp [e.1, e.2.1] at h1)]
  exact h.1 t ht
theorem St.nA {σ : AS} {c n : Nat} (h : St σ) : St (nA σ c n) := by
  refine ⟨fun t ht => ?_, fun t ht => ?_⟩
  · obtain ⟨h1, h2⟩ := h.1 t ht
    rw [gR_nA, cnt_nA]
    refine ⟨by rw [if_neg (fun e => by rw [e.1] at h2; omega)]; exact h1, ?_⟩
    split
    · rename_i e; rw [e] at h2; omega
    · exact h2
  · obtain ⟨h1, h2⟩ := h.2 t ht
    rw [gN_nA, cnt_nA]
    refine ⟨by rw [if_neg (fun e => by rw [e.1] at h2; omega)]; exact h1, ?_⟩
    split
    · rename_i e; rw [e] at h2; omega
    · exact h2
theorem vp_of {x : Int32} {n m : Nat} (e : n = m) (h : vp_in x m) : vp_in x n := e ▸ h
theorem gI_self {σ : AS} {c f i : Nat} {v : Int32} : gI (sI σ c f i v) c f i = v := if_pos ⟨rfl, rfl, rfl⟩
theorem gR_self {σ : AS} {c f i : Nat} {v : Option Nm} : gR (sR σ c f i v) c f i = v := if_pos ⟨rfl, rfl, rfl⟩
theorem gA_self {σ : AS} {c i j : Nat} {v : Int32} : gA (sA σ c i j v) c i j = v := if_pos ⟨rfl, rfl, rfl⟩
theorem gQ_self {σ : AS} {c i j : Nat} {v : Option Nm} : gQ (sQ σ c i j v) c i j = v := if_pos ⟨rfl, rfl, rfl⟩
theorem gL_self {σ : AS} {c i j : Nat} {v : Int64} : gL (sL σ c i j v) c i j = v := if_pos ⟨rfl, rfl, rfl⟩
/-- a field may be written: it isn't final, or it is its own class's constructor -/
def finOK (M : Mth) (c f : Nat) : Prop := ∀ r, vwCl[c]? = some r → (r.2.1 f).2.2.2 = false ∨ ((mY M).name = "<init>" ∧ (r.2.1 f).1 = mO M)
theorem fin_no {M : Mth} {c f : Nat} {r : vw_C} (h : vwCl[c]? = some r) (k : (r.2.1 f).2.2.2 = false) : ∀ r, vwCl[c]? = some r → (r.2.1 f).2.2.2 = false ∨ ((mY M).name = "<init>" ∧ (r.2.1 f).1 = mO M) := fun r' h' => by
  cases h.symm.trans h'
  exact Or.inl k
theorem fin_init {M : Mth} {c f : Nat} {r : vw_C} (h : vwCl[c]? = some r) (k : (mY M).name = "<init>") (k2 : (r.2.1 f).1 = mO M) : ∀ r, vwCl[c]? = some r → (r.2.1 f).2.2.2 = false ∨ ((mY M).name = "<init>" ∧ (r.2.1 f).1 = mO M) := fun r' h' => by
  cases h.symm.trans h'
  exact Or.inr ⟨k, k2⟩
section ROWS5
variable {G : GG} {l : Launch} {M : Mth} {d : Nat} {post : Option AVal → AS → Prop} {σ : AS} {kk nn pc : Nat} {L : List (Option AVal)} {st : List AVal}
theorem aw_getIv {c f i idx : Nat} {x : Int32} (hf : FL M c f idx) (hr : isRf c f = false) (hx : gI σ c f i = x) (hd : decode (mC M) pc = .ok (.getfield idx, 3)) (k : AW G l M d post σ kk nn (pc + 3) L (xI x :: st)) : AW G l M d post σ kk nn pc L (xR (some (c, i)) :: st) := aw_getI hf hr hd (by rw [hx]; exact k)
theorem aw_getRv {c f i idx : Nat} {r : Option Nm} (hf : FL M c f idx) (hr : isRf c f = true) (hx : gR σ c f i = r) (hd : decode (mC M) pc = .ok (.getfield idx, 3)) (k : AW G l M d post σ kk nn (pc + 3) L (xR r :: st)) : AW G l M d post σ kk nn pc L (xR (some (c, i)) :: st) := aw_getR hf hr hd (by rw [hx]; exact k)
theorem aw_alenv {c i n : Nat} (hx : gN σ c i = n) (hd : decode (mC M) pc = .ok (.arraylength, 1)) (hcc : 20 ≤ c ∧ c < 28) (k : AW G l M d post σ kk nn (pc + 1) L (xI (nI n) :: st)) : AW G l M d post σ kk nn pc L (xR (some (c, i)) :: st) := aw_alen hd hcc (by rw [hx]; exact k)
theorem aw_toI {f : Int32 → AS → Prop} (h : ∀ x σ', f x σ' → AW G l M d post σ' kk nn pc L (xI x :: st)) : ∀ v σ', retI f v σ' → AW G l M d post σ' kk nn pc L (v.toList ++ st) := retI_to (g := fun v σ' => AW G l M d post σ' kk nn pc L (v.toList ++ st)) h
theorem aw_toL {f : Int64 → AS → Prop} (h : ∀ x σ', f x σ' → AW G l M d post σ' kk nn pc L (xL x :: st)) : ∀ v σ', retL f v σ' → AW G l M d post σ' kk nn pc L (v.toList ++ st) := retL_to (g := fun v σ' => AW G l M d post σ' kk nn pc L (v.toList ++ st)) h
theorem aw_toR {f : Option Nm → AS → Prop} (h : ∀ x σ', f x σ' → AW G l M d post σ' kk nn pc L (xR x :: st)) : ∀ v σ', retR f v σ' → AW G l M d post σ' kk nn pc L (v.toList ++ st) := retR_to (g := fun v σ' => AW G l M d post σ' kk nn pc L (v.toList ++ st)) h
theorem aw_toV {f : AS → Prop} (h : ∀ σ', f σ' → AW G l M d post σ' kk nn pc L st) : ∀ v σ', retV f v σ' → AW G l M d post σ' kk nn pc L (v.toList ++ st) := retV_to (g := fun v σ' => AW G l M d post σ' kk nn pc L (v.toList ++ st)) h
theorem aw_callV0 {M' : Mth} {idx n d' c i : Nat} {as stk : List AVal} (hw : MW M' n) (hcls : rcls c = (mY M').cls ∧ (c < 14 ∨ c = 30)) (hl : Cond.methodLink (mO M) idx (mY M') ∈ TW ∧ Cond.instanceMethod (mY M') ∈ TW ∧ Cond.selects (mY M').cls (mY M') (mY M') ∈ TW) (hn : as.length = n) (hd : decode (mC M) pc = .ok (.invokevirtual idx, 3)) (hstk : stk = as.reverse ++ xR (some (c, i)) :: st) (h4 : st.length ≤ 4)
    (hm : AMet G l M' d' 0 0 (xR (some (c, i)) :: as) σ (fun v σ' => AW G l M (d' + 1) post σ' kk nn (pc + 3) L (v.toList ++ st))) : AW G l M (d' + 1) post σ kk nn pc L stk := aw_callV hw hcls hl hn hd hstk h4 hm
theorem aw_callS0 {M' : Mth} {idx n d' : Nat} {as stk : List AVal} (hw : MW M' n) (hl : Cond.methodLink (mO M) idx (mY M') ∈ TW ∧ Cond.static (mY M') ∈ TW) (hn : as.length = n) (hd : decode (mC M) pc = .ok (.invokestatic idx, 3)) (hstk : stk = as.reverse ++ st) (h4 : st.length ≤ 4)
    (hm : AMet G l M' d' 0 0 as σ (fun v σ' => AW G l M (d' + 1) post σ' kk nn (pc + 3) L (v.toList ++ st))) : AW G l M (d' + 1) post σ kk nn pc L stk := aw_callS hw hl hn hd hstk h4 hm
theorem aw_callSN0 {M' : Mth} {idx n d' : Nat} {as stk : List AVal} {host : String} (hw : MW M' n) (hl : (mO M, idx, mY M', host) ∈ nestW ∧ Cond.static (mY M') ∈ TW) (hn : as.length = n) (hd : decode (mC M) pc = .ok (.invokestatic idx, 3)) (hstk : stk = as.reverse ++ st) (h4 : st.length ≤ 4)
    (hm : AMet G l M' d' 0 0 as σ (fun v σ' => AW G l M (d' + 1) post σ' kk nn (pc + 3) L (v.toList ++ st))) : AW G l M (d' + 1) post σ kk nn pc L stk := aw_callSN hw hl hn hd hstk h4 hm
theorem aw_callI0 {M' : Mth} {idx n d' c i : Nat} {as stk : List AVal} (hw : MW M' n) (hret : mR M' = none) (hname : (mY M').name = "<init>") (hl : Cond.methodLink (mO M) idx (mY M') ∈ TW ∧ Cond.instanceMethod (mY M') ∈ TW) (hn : as.length = n) (hd : decode (mC M) pc = .ok (.invokespecial idx, 3)) (hstk : stk = as.reverse ++ xR (some (c, i)) :: st) (h4 : st.length ≤ 4)
    (hm : AMet G l M' d' 0 0 (xR (some (c, i)) :: as) σ (fun v σ' => AW G l M (d' + 1) post σ' kk nn (pc + 3) L (v.toList ++ st))) : AW G l M (d' + 1) post σ kk nn pc L stk := aw_callI hw hret hname hl hn hd hstk h4 hm
end ROWS5
