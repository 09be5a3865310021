/-! THE ABSTRACT LAYER. A name is a kind and a number (the how-manieth of its kind); a state says what each named object's fields and each named array's places hold. Rep: a heap holds a state. AW: a walk in words of states. -/
abbrev Nm : Type := Nat × Nat
abbrev AVal : Type := Int32 ⊕ (Int64 ⊕ Option Nm)
abbrev xI (x : Int32) : AVal := Sum.inl x
abbrev xL (x : Int64) : AVal := Sum.inr (Sum.inl x)
abbrev xR (r : Option Nm) : AVal := Sum.inr (Sum.inr r)
abbrev AS : Type := (Nat → Nat) × (Nat → Nat → Nat → Int32) × (Nat → Nat → Nat → Option Nm) × (Nat → Nat → Nat) × (Nat → Nat → Nat → Int32) × (Nat → Nat → Nat → Option Nm) × (Nat → Nat → Nat → Int64)
def u1 {α : Type} (f : Nat → α) (a : Nat) (v : α) : Nat → α := fun x => if x = a then v else f x
def u3 {α : Type} (f : Nat → Nat → Nat → α) (a b c : Nat) (v : α) : Nat → Nat → Nat → α := fun x y z => if x = a ∧ y = b ∧ z = c then v else f x y z
def cnt (σ : AS) (c : Nat) : Nat := σ.1 c
def gI (σ : AS) (c f i : Nat) : Int32 := σ.2.1 c f i
def gR (σ : AS) (c f i : Nat) : Option Nm := σ.2.2.1 c f i
def gN (σ : AS) (c i : Nat) : Nat := σ.2.2.2.1 c i
def gA (σ : AS) (c i j : Nat) : Int32 := σ.2.2.2.2.1 c i j
def gQ (σ : AS) (c i j : Nat) : Option Nm := σ.2.2.2.2.2.1 c i j
def gL (σ : AS) (c i j : Nat) : Int64 := σ.2.2.2.2.2.2 c i j
def sI (σ : AS) (c f i : Nat) (v : Int32) : AS := (σ.1, u3 σ.2.1 c f i v, σ.2.2)
def sR (σ : AS) (c f i : Nat) (v : Option Nm) : AS := (σ.1, σ.2.1, u3 σ.2.2.1 c f i v, σ.2.2.2)
def sA (σ : AS) (c i j : Nat) (v : Int32) : AS := (σ.1, σ.2.1, σ.2.2.1, σ.2.2.2.1, u3 σ.2.2.2.2.1 c i j v, σ.2.2.2.2.2)
def sQ (σ : AS) (c i j : Nat) (v : Option Nm) : AS := (σ.1, σ.2.1, σ.2.2.1, σ.2.2.2.1, σ.2.2.2.2.1, u3 σ.2.2.2.2.2.1 c i j v, σ.2.2.2.2.2.2)
def sL (σ : AS) (c i j : Nat) (v : Int64) : AS := (σ.1, σ.2.1, σ.2.2.1, σ.2.2.2.1, σ.2.2.2.2.1, σ.2.2.2.2.2.1, u3 σ.2.2.2.2.2.2 c i j v)
/-- a new array of kind c with n places (an object: none) -/
def nA (σ : AS) (c n : Nat) : AS := (u1 σ.1 c (σ.1 c + 1), (fun x y z => if x = c ∧ z = σ.1 c then 0 else σ.2.1 x y z), (fun x y z => if x = c ∧ z = σ.1 c then none else σ.2.2.1 x y z), (fun x z => if x = c ∧ z = σ.1 c then n else σ.2.2.2.1 x z), (fun x z j => if x = c ∧ z = σ.1 c then 0 else σ.2.2.2.2.1 x z j), (fun x z j => if x = c ∧ z = σ.1 c then none else σ.2.2.2.2.2.1 x z j), (fun x z j => if x = c ∧ z = σ.1 c then 0 else σ.2.2.2.2.2.2 x z j))
/-- a new object of kind c -/
def nO (σ : AS) (c : Nat) : AS := nA σ c 0

theorem cnt_sI (σ : AS) (a b e : Nat) (v : Int32) (c : Nat) : cnt (sI σ a b e v) c = cnt σ c := rfl
theorem cnt_sR (σ : AS) (a b e : Nat) (v : (Option Nm)) (c : Nat) : cnt (sR σ a b e v) c = cnt σ c := rfl
theorem cnt_sA (σ : AS) (a b e : Nat) (v : Int32) (c : Nat) : cnt (sA σ a b e v) c = cnt σ c := rfl
theorem cnt_sQ (σ : AS) (a b e : Nat) (v : (Option Nm)) (c : Nat) : cnt (sQ σ a b e v) c = cnt σ c := rfl
theorem cnt_sL (σ : AS) (a b e : Nat) (v : Int64) (c : Nat) : cnt (sL σ a b e v) c = cnt σ c := rfl
theorem gI_sI (σ : AS) (a b e : Nat) (v : Int32) (c f i : Nat) : gI (sI σ a b e v) c f i = if c = a ∧ f = b ∧ i = e then v else gI σ c f i := rfl
theorem gI_sR (σ : AS) (a b e : Nat) (v : (Option Nm)) (c f i : Nat) : gI (sR σ a b e v) c f i = gI σ c f i := rfl
theorem gI_sA (σ : AS) (a b e : Nat) (v : Int32) (c f i : Nat) : gI (sA σ a b e v) c f i = gI σ c f i := rfl
theorem gI_sQ (σ : AS) (a b e : Nat) (v : (Option Nm)) (c f i : Nat) : gI (sQ σ a b e v) c f i = gI σ c f i := rfl
theorem gI_sL (σ : AS) (a b e : Nat) (v : Int64) (c f i : Nat) : gI (sL σ a b e v) c f i = gI σ c f i := rfl
theorem gR_sI (σ : AS) (a b e : Nat) (v : Int32) (c f i : Nat) : gR (sI σ a b e v) c f i = gR σ c f i := rfl
theorem gR_sR (σ : AS) (a b e : Nat) (v : (Option Nm)) (c f i : Nat) : gR (sR σ a b e v) c f i = if c = a ∧ f = b ∧ i = e then v else gR σ c f i := rfl
theorem gR_sA (σ : AS) (a b e : Nat) (v : Int32) (c f i : Nat) : gR (sA σ a b e v) c f i = gR σ c f i := rfl
theorem gR_sQ (σ : AS) (a b e : Nat) (v : (Option Nm)) (c f i : Nat) : gR (sQ σ a b e v) c f i = gR σ c f i := rfl
theorem gR_sL (σ : AS) (a b e : Nat) (v : Int64) (c f i : Nat) : gR (sL σ a b e v) c f i = gR σ c f i := rfl
theorem gN_sI (σ : AS) (a b e : Nat) (v : Int32) (c i : Nat) : gN (sI σ a b e v) c i = gN σ c i := rfl
theorem gN_sR (σ : AS) (a b e : Nat) (v : (Option Nm)) (c i : Nat) : gN (sR σ a b e v) c i = gN σ c i := rfl
theorem gN_sA (σ : AS) (a b e : Nat) (v : Int32) (c i : Nat) : gN (sA σ a b e v) c i = gN σ c i := rfl
theorem gN_sQ (σ : AS) (a b e : Nat) (v : (Option Nm)) (c i : Nat) : gN (sQ σ a b e v) c i = gN σ c i := rfl
theorem gN_sL (σ : AS) (a b e : Nat) (v : Int64) (c i : Nat) : gN (sL σ a b e v) c i = gN σ c i := rfl
theorem gA_sI (σ : AS) (a b e : Nat) (v : Int32) (c i j : Nat) : gA (sI σ a b e v) c i j = gA σ c i j := rfl
theorem gA_sR (σ : AS) (a b e : Nat) (v : (Option Nm)) (c i j : Nat) : gA (sR σ a b e v) c i j = gA σ c i j := rfl
theorem gA_sA (σ : AS) (a b e : Nat) (v : Int32) (c i j : Nat) : gA (sA σ a b e v) c i j = if c = a ∧ i = b ∧ j = e then v else gA σ c i j := rfl
theorem gA_sQ (σ : AS) (a b e : Nat) (v : (Option Nm)) (c i j : Nat) : gA (sQ σ a b e v) c i j = gA σ c i j := rfl
theorem gA_sL (σ : AS) (a b e : Nat) (v : Int64) (c i j : Nat) : gA (sL σ a b e v) c i j = gA σ c i j := rfl
theorem gQ_sI (σ : AS) (a b e : Nat) (v : Int32) (c i j : Nat) : gQ (sI σ a b e v) c i j = gQ σ c i j := rfl
theorem gQ_sR (σ : AS) (a b e : Nat) (v : (Option Nm)) (c i j : Nat) : gQ (sR σ a b e v) c i j = gQ σ c i j := rfl
theorem gQ_sA (σ : AS) (a b e : Nat) (v : Int32) (c i j : Nat) : gQ (sA σ a b e v) c i j = gQ σ c i j := rfl
theorem gQ_sQ (σ : AS) (a b e : Nat) (v : (Option Nm)) (c i j : Nat) : gQ (sQ σ a b e v) c i j = if c = a ∧ i = b ∧ j = e then v else gQ σ c i j := rfl
theorem gQ_sL (σ : AS) (a b e : Nat) (v : Int64) (c i j : Nat) : gQ (sL σ a b e v) c i j = gQ σ c i j := rfl
theorem gL_sI (σ : AS) (a b e : Nat) (v : Int32) (c i j : Nat) : gL (sI σ a b e v) c i j = gL σ c i j := rfl
theorem gL_sR (σ : AS) (a b e : Nat) (v : (Option Nm)) (c i j : Nat) : gL (sR σ a b e v) c i j = gL σ c i j := rfl
theorem gL_sA (σ : AS) (a b e : Nat) (v : Int32) (c i j : Nat) : gL (sA σ a b e v) c i j = gL σ c i j := rfl
theorem gL_sQ (σ : AS) (a b e : Nat) (v : (Option Nm)) (c i j : Nat) : gL (sQ σ a b e v) c i j = gL σ c i j := rfl
theorem gL_sL (σ : AS) (a b e : Nat) (v : Int64) (c i j : Nat) : gL (sL σ a b e v) c i j = if c = a ∧ i = b ∧ j = e then v else gL σ c i j := rfl
theorem cnt_nO (σ : AS) (a c : Nat) : cnt (nO σ a) c = if c = a then cnt σ a + 1 else cnt σ c := rfl
theorem cnt_nA (σ : AS) (a n c : Nat) : cnt (nA σ a n) c = if c = a then cnt σ a + 1 else cnt σ c := rfl
theorem gI_nO (σ : AS) (a c f i : Nat) : gI (nO σ a) c f i = if c = a ∧ i = cnt σ a then 0 else gI σ c f i := rfl
theorem gI_nA (σ : AS) (a n c f i : Nat) : gI (nA σ a n) c f i = if c = a ∧ i = cnt σ a then 0 else gI σ c f i := rfl
theorem gR_nO (σ : AS) (a c f i : Nat) : gR (nO σ a) c f i = if c = a ∧ i = cnt σ a then none else gR σ c f i := rfl
theorem gR_nA (σ : AS) (a n c f i : Nat) : gR (nA σ a n) c f i = if c = a ∧ i = cnt σ a then none else gR σ c f i := rfl
theorem gN_nO (σ : AS) (a c i : Nat) : gN (nO σ a) c i = if c = a ∧ i = cnt σ a then 0 else gN σ c i := rfl
theorem gN_nA (σ : AS) (a n c i : Nat) : gN (nA σ a n) c i = if c = a ∧ i = cnt σ a then n else gN σ c i := rfl
theorem gA_nO (σ : AS) (a c i j : Nat) : gA (nO σ a) c i j = if c = a ∧ i = cnt σ a then 0 else gA σ c i j := rfl
theorem gA_nA (σ : AS) (a n c i j : Nat) : gA (nA σ a n) c i j = if c = a ∧ i = cnt σ a then 0 else gA σ c i j := rfl
theorem gQ_nO (σ : AS) (a c i j : Nat) : gQ (nO σ a) c i j = if c = a ∧ i = cnt σ a then none else gQ σ c i j := rfl
theorem gQ_nA (σ : AS) (a n c i j : Nat) : gQ (nA σ a n) c i j = if c = a ∧ i = cnt σ a then none else gQ σ c i j := rfl
theorem gL_nO (σ : AS) (a c i j : Nat) : gL (nO σ a) c i j = if c = a ∧ i = cnt σ a then 0 else gL σ c i j := rfl
theorem gL_nA (σ : AS) (a n c i j : Nat) : gL (nA σ a n) c i j = if c = a ∧ i = cnt σ a then 0 else gL σ c i j := rfl
/-- a value of the machine -/
def adn (ad : Nat → Nat → Nat) (n : Nm) : Nat := ad n.1 n.2
def cv (ad : Nat → Nat → Nat) : AVal → Value
  | .inl x => .int x
  | .inr (.inl x) => .long x
  | .inr (.inr r) => va_rf (r.map (adn ad))
def okn (σ : AS) (r : Option Nm) : Prop := ∀ n, r = some n → n.2 < cnt σ n.1
def okv (σ : AS) : AVal → Prop
  | .inr (.inr r) => okn σ r
  | _ => True
/-- the types of the fields of kind c -/
def tyT (c : Nat) : Nat → FieldType := match c with
  | 0 => tyJx4a65c | 1 => tyX0 | 2 => tyX1 | 3 => tyX2 | 4 => tyX3 | 5 => tyX4 | 6 => tyX5 | 7 => tyX6 | 8 => tyX7 | 9 => tyX8 | 10 => tyX9 | 11 => tyX10 | 12 => tyX11 | _ => tyX12
def isRf (c f : Nat) : Bool := match tyT c f with
  | .int => false | .boolean => false | _ => true
theorem cls_words : ∀ r ∈ vwCl, ∀ w ∈ u_ws r.1 r.2.1 r.2.2, w ∈ lw_tbl ∧ goodWord w = true := by decide +kernel
theorem cls_in {c : Nat} {r : vw_C} (h : vwCl[c]? = some r) : ∀ w ∈ u_ws r.1 r.2.1 r.2.2, w ∈ TW := fun w hw => tw_of (cls_words r (List.mem_of_getElem? h) w hw).1 (cls_words r (List.mem_of_getElem? h) w hw).2
theorem cls_ty0 : ∀ c, c < 14 → ∀ k, k < (vwCl.getD c ("", TX0, 0)).2.2 → parseFieldDescriptor ((vwCl.getD c ("", TX0, 0)).2.1 k).2.2.1 = some (tyT c k) := by decide +kernel
theorem cls_nm0 : ∀ c, c < 14 → ∀ a, a < (vwCl.getD c ("", TX0, 0)).2.2 → ∀ b, b < (vwCl.getD c ("", TX0, 0)).2.2 → a ≠ b → ((vwCl.getD c ("", TX0, 0)).2.1 a).2.1 ≠ ((vwCl.getD c ("", TX0, 0)).2.1 b).2.1 := by decide +kernel
theorem cls_lt {c : Nat} {r : vw_C} (h : vwCl[c]? = some r) : c < 14 := (List.getElem?_eq_some_iff.mp h).1
theorem cls_getD {c : Nat} {r : vw_C} (h : vwCl[c]? = some r) : vwCl.getD c ("", TX0, 0) = r := by rw [List.getD_eq_getElem?_getD, h]; rfl
theorem cls_ty {c : Nat} {r : vw_C} (h : vwCl[c]? = some r) : ∀ k, k < r.2.2 → parseFieldDescriptor (r.2.1 k).2.2.1 = some (tyT c k) := by
  have := cls_ty0 c (cls_lt h)
  rw [cls_getD h] at this
  exact this
theorem cls_nm {c : Nat} {r : vw_C} (h : vwCl[c]? = some r) : ∀ a, a < r.2.2 → ∀ b, b < r.2.2 → a ≠ b → (r.2.1 a).2.1 ≠ (r.2.1 b).2.1 := by
  have := cls_nm0 c (cls_lt h)
  rw [cls_getD h] at this
  exact this
/-- what is known of the launch: the classes' and the slots' places; the array classes; the first cell that is ours; the heap at the law's entry; the fixed names' places; the String constants' bytes -/
abbrev GG : Type := va_G × (Nat → ClassId) × Nat × Heap × (Nat → Nat → Nat) × (Nat → Nat)
def gB (G : GG) : Nat := G.2.2.1
def gH (G : GG) : Heap := G.2.2.2.1
def gF (G : GG) : Nat → Nat → Nat := G.2.2.2.2.1
def gV (G : GG) : Nat → Nat := G.2.2.2.2.2
/-- the sort of an array of kind c -/
def aty (c : Nat) : Nat := match c with
  | 21 => 1 | 22 => 2 | 23 => 3 | 24 => 4 | _ => 0
def tysG (G : GG) : List (ClassId × FieldType) := [(G.2.1 0, .int), (G.2.1 1, .boolean), (G.2.1 2, .byte), (G.2.1 3, .object "java/lang/Object"), (G.2.1 4, .long)]
def fv (ad : Nat → Nat → Nat) (σ : AS) (c i f : Nat) : Value := if isRf c f = true then va_rf ((gR σ c f i).map (adn ad)) else .int (gI σ c f i)
def acell0 (G : GG) (ad : Nat → Nat → Nat) (σ : AS) (c i : Nat) : Cell := match aty c with
  | 3 => arrV (G.2.1 3) (gN σ c i) (fun j => va_rf ((gQ σ c i j).map (adn ad)))
  | 4 => arrV (G.2.1 4) (gN σ c i) (fun j => .long (gL σ c i j))
  | t => arrV (G.2.1 t) (gN σ c i) (fun j => .int (gA σ c i j))
/-- the two arrays that were there before are as the heap at the entry has them, but for their places -/
def fixz (G : GG) (c i : Nat) (z : Cell) : Cell := if (c = 23 ∧ i = 0) ∨ (c = 27 ∧ i = 0) then (match (gH G)[gF G c i]? with
  | some y => { y with slots := if c = 23 then y.slots else z.slots }
  | none => z) else z
theorem fixz_o {G : GG} {c i : Nat} {z : Cell} (h : ¬ ((c = 23 ∧ i = 0) ∨ (c = 27 ∧ i = 0))) : fixz G c i z = z := if_neg h
theorem fixz_slots {G : GG} {c i : Nat} {z : Cell} (h : ¬ (c = 23 ∧ i = 0)) : (fixz G c i z).slots = z.slots := by
  unfold fixz
  split
  · rename_i q
    have h23 : c ≠ 23 := by omega
    split
    · exact if_neg h23
    · rfl
  · rfl
def acell (G : GG) (ad : Nat → Nat → Nat) (σ : AS) (c i : Nat) : Cell := fixz G c i (acell0 G ad σ c i)
/-- names that lie below: the empty array of ArrayList, the script, the String constants -/
def fixd (c i : Nat) : Prop := (c = 23 ∧ i = 0) ∨ (c = 27 ∧ i = 0) ∨ c = 30 ∨ c = 31 ∨ c = 32
def Rep (G : GG) (ad : Nat → Nat → Nat) (σ : AS) (H : Heap) : Prop :=
  (∀ c i, i < cnt σ c → ∀ r, vwCl[c]? = some r → t_OB (ad c i) (G.1.1 c) r.2.2 (G.1.2 c) H (fv ad σ c i)) ∧
  (∀ c i, 20 ≤ c → c < 28 → i < cnt σ c → H[ad c i]? = some (acell G ad σ c i)) ∧
  (∀ c i c' i', i < cnt σ c → i' < cnt σ c' → ¬ fixd c i → c' ≠ 31 → ad c i = ad c' i' → c = c' ∧ i = i') ∧
  (∀ c i, i < cnt σ c → (c ≠ 31 → ad c i < H.size) ∧ (¬ fixd c i → gB G ≤ ad c i) ∧ (fixd c i → ad c i = gF G c i ∧ (c ≠ 31 → ad c i < gB G))) ∧
  (gB G ≤ H.size ∧ ∀ q, q < gB G → H[q]? = (gH G)[q]?) ∧
  (∀ c f i, i < cnt σ c → okn σ (gR σ c f i)) ∧
  (∀ c i j, i < cnt σ c → okn σ (gQ σ c i j)) ∧
  (gN σ 23 0 = 0 ∧ 0 < cnt σ 23 ∧ cnt σ 30 = 21 ∧ cnt σ 31 = 1 ∧ cnt σ 32 = 21)
def Ext (σ : AS) (ad : Nat → Nat → Nat) (σ' : AS) (ad' : Nat → Nat → Nat) : Prop := ∀ c i, i < cnt σ c → i < cnt σ' c ∧ ad' c i = ad c i
theorem Ext.rf {σ : AS} {ad : Nat → Nat → Nat} : Ext σ ad σ ad := fun _ _ h => ⟨h, rfl⟩
theorem Ext.tr {σ σ1 σ2 : AS} {ad ad1 ad2 : Nat → Nat → Nat} (h : Ext σ ad σ1 ad1) (k : Ext σ1 ad1 σ2 ad2) : Ext σ ad σ2 ad2 := fun c i z => ⟨(k c i (h c i z).1).1, (k c i (h c i z).1).2.trans (h c i z).2⟩
theorem ext_okn {σ σ' : AS} {ad ad' : Nat → Nat → Nat} (h : Ext σ ad σ' ad') {r : Option Nm} (k : okn σ r) : okn σ' r := fun n e => (h n.1 n.2 (k n e)).1
theorem ext_okv {σ σ' : AS} {ad ad' : Nat → Nat → Nat} (h : Ext σ ad σ' ad') {v : AVal} (k : okv σ v) : okv σ' v := by
  rcases v with x | x | r
  · trivial
  · trivial
  · exact ext_okn h k
theorem ext_mapn {σ σ' : AS} {ad ad' : Nat → Nat → Nat} (h : Ext σ ad σ' ad') {r : Option Nm} (k : okn σ r) : r.map (adn ad') = r.map (adn ad) := by
  cases r with
  | none => rfl
  | some n => exact congrArg some (h n.1 n.2 (k n rfl)).2
theorem ext_cv {σ σ' : AS} {ad ad' : Nat → Nat → Nat} (h : Ext σ ad σ' ad') {v : AVal} (k : okv σ v) : cv ad' v = cv ad v := by
  rcases v with x | x | r
  · rfl
  · rfl
  · exact congrArg va_rf (ext_mapn h k)
theorem ext_cvs {σ σ' : AS} {ad ad' : Nat → Nat → Nat} (h : Ext σ ad σ' ad') {st : List AVal} (k : ∀ v ∈ st, okv σ v) : st.map (cv ad') = st.map (cv ad) := List.map_congr_left fun v hv => ext_cv h (k v hv)
/-- the locals -/
def lget : List (Option AVal) → Nat → Option AVal
  | [], _ => none
  | a :: _, 0 => a
  | _ :: L, i + 1 => lget L i
def lcut : Option AVal → Option AVal
  | some (.inr (.inl _)) => none
  | a => a
def lset : List (Option AVal) → Nat → AVal → List (Option AVal)
  | [], _, _ => []
  | _ :: L, 0, v => some v :: L
  | a :: L, i + 1, v => (match i with | 0 => lcut a | _ => a) :: lset L i v
def lset2 : List (Option AVal) → Nat → AVal → List (Option AVal)
  | [], _, _ => []
  | _ :: L, 0, v => some v :: (match L with | [] => [] | _ :: L' => none :: L')
  | a :: L, i + 1, v => (match i with | 0 => lcut a | _ => a) :: lset2 L i v
def LR (σ : AS) (ad : Nat → Nat → Nat) (nL : Nat) (L : List (Option AVal)) (ls : Array Slot) : Prop := ls.size = nL ∧ lv_wf ls ∧ ∀ i v, lget L i = some v → ls[i]? = some (.val (cv ad v)) ∧ okv σ v
theorem lcut_some {a : Option AVal} {v : AVal} (h : lcut a = some v) : a = some v ∧ ∀ x, v ≠ .inr (.inl x) := by
  rcases a with _ | (x | x | r)
  · cases h
  · cases h; exact ⟨rfl, fun _ h => by cases h⟩
  · cases h
  · cases h; exact ⟨rfl, fun _ h => by cases h⟩
theorem lget_lset : ∀ (L : List (Option AVal)) (i : Nat) (v : AVal) (j : Nat) (w : AVal), lget (lset L i v) j = some w → (j = i ∧ w = v) ∨ (j ≠ i ∧ lget L j = some w ∧ (j + 1 = i → ∀ x, w ≠ .inr (.inl x)))
  | [], i, v, j, w, h => by cases h
  | a :: L, 0, v, 0, w, h => by cases h; exact Or.inl ⟨rfl, rfl⟩
  | a :: L, 0, v, j + 1, w, h => Or.inr ⟨by omega, h, by omega⟩
  | a :: L, 1, v, 0, w, h => by
    obtain ⟨e, n⟩ := lcut_some h
    exact Or.inr ⟨by omega, e, fun _ => n⟩
  | a :: L, i + 2, v, 0, w, h => Or.inr ⟨by omega, h, by omega⟩
  | a :: L, i + 1, v, j + 1, w, h => by
    rcases lget_lset L i v j w h with ⟨e, f⟩ | ⟨e, f, g⟩
    · exact Or.inl ⟨by omega, f⟩
    · exact Or.inr ⟨by omega, f, fun z => g (by omega)⟩
theorem lget_lset2 : ∀ (L : List (Option AVal)) (i : Nat) (v : AVal) (j : Nat) (w : AVal), lget (lset2 L i v) j = some w → (j = i ∧ w = v) ∨ (j ≠ i ∧ j ≠ i + 1 ∧ lget L j = some w ∧ (j + 1 = i → ∀ x, w ≠ .inr (.inl x)))
  | [], i, v, j, w, h => by cases h
  | a :: L, 0, v, 0, w, h => by cases h; exact Or.inl ⟨rfl, rfl⟩
  | [a], 0, v, j + 1, w, h => by cases h
  | a :: b :: L, 0, v, 1, w, h => by cases h
  | a :: b :: L, 0, v, j + 2, w, h => Or.inr ⟨by omega, by omega, h, by omega⟩
  | a :: L, 1, v, 0, w, h => by
    obtain ⟨e, n⟩ := lcut_some h
    exact Or.inr ⟨by omega, by omega, e, fun _ => n⟩
  | a :: L, i + 2, v, 0, w, h => Or.inr ⟨by omega, by omega, h, by omega⟩
  | a :: L, i + 1, v, j + 1, w, h => by
    rcases lget_lset2 L i v j w h with ⟨e, f⟩ | ⟨e, e2, f, g⟩
    · exact Or.inl ⟨by omega, f⟩
    · exact Or.inr ⟨by omega, by omega, f, fun z => g (by omega)⟩
def lpairs (ad : Nat → Nat → Nat) (L : List (Option AVal)) : List (Nat × Value) := (List.range L.length).filterMap fun i => (lget L i).map fun v => (i, cv ad v)
theorem lget_lt : ∀ (L : List (Option AVal)) (i : Nat) (v : AVal), lget L i = some v → i < L.length
  | [], _, _, h => by cases h
  | _ :: _, 0, _, _ => Nat.zero_lt_succ _
  | _ :: L, i + 1, v, h => Nat.succ_lt_succ (lget_lt L i v h)
theorem mem_lpairs {ad : Nat → Nat → Nat} {L : List (Option AVal)} {i : Nat} {v : AVal} (h : lget L i = some v) : (i, cv ad v) ∈ lpairs ad L := List.mem_filterMap.mpr ⟨i, List.mem_range.mpr (lget_lt L i v h), by rw [h]; rfl⟩
theorem LR.has {σ : AS} {ad : Nat → Nat → Nat} {nL : Nat} {L : List (Option AVal)} {ls : Array Slot} (h : LR σ ad nL L ls) : lv_has ls nL (lpairs ad L) := by
  refine ⟨h.1, h.2.1, fun q hq => ?_⟩
  obtain ⟨i, -, hi⟩ := List.mem_filterMap.mp hq
  cases hv : lget L i with
  | none => rw [hv] at hi; cases hi
  | some v =>
    rw [hv] at hi
    cases hi
    exact (h.2.2 i v hv).1
theorem cv_cat1 {ad : Nat → Nat → Nat} {v : AVal} (h : ∀ x, v ≠ .inr (.inl x)) : (cv ad v).category = 1 := by
  rcases v with x | x | r
  · rfl
  · exact absurd rfl (h x)
  · cases r <;> rfl
theorem LR.st1 {σ : AS} {ad : Nat → Nat → Nat} {nL i : Nat} {L : List (Option AVal)} {ls ls' : Array Slot} {v : AVal} (h : LR σ ad nL L ls) (hv : okv σ v) (k : lv_has ls' nL ((i, cv ad v) :: (lpairs ad L).filter (fun q => !(q.1 == i) && !(q.1 + 1 == i && q.2.category == 2)))) : LR σ ad nL (lset L i v) ls' := by
  refine ⟨k.1, k.2.1, fun j w hj => ?_⟩
  rcases lget_lset L i v j w hj with ⟨rfl, rfl⟩ | ⟨h1, h2, h3⟩
  · exact ⟨k.2.2 _ List.mem_cons_self, hv⟩
  · refine ⟨k.2.2 (j, cv ad w) (List.mem_cons_of_mem _ (List.mem_filter.mpr ⟨mem_lpairs h2, ?_⟩)), (h.2.2 j w h2).2⟩
    by_cases hji : j + 1 = i
    · have hc := cv_cat1 (ad := ad) (h3 hji)
      simp [h1, hc]
    · simp [h1, hji]
theorem LR.st2 {σ : AS} {ad : Nat → Nat → Nat} {nL i : Nat} {L : List (Option AVal)} {ls ls' : Array Slot} {v : AVal} (h : LR σ ad nL L ls) (hv : okv σ v) (k : lv_has ls' nL ((i, cv ad v) :: (lpairs ad L).filter (fun q => !(q.1 == i) && (!(q.1 == i + 1) && !(q.1 + 1 == i && q.2.category == 2))))) : LR σ ad nL (lset2 L i v) ls' := by
  refine ⟨k.1, k.2.1, fun j w hj => ?_⟩
  rcases lget_lset2 L i v j w hj with ⟨rfl, rfl⟩ | ⟨h1, h4, h2, h3⟩
  · exact ⟨k.2.2 _ List.mem_cons_self, hv⟩
  · refine ⟨k.2.2 (j, cv ad w) (List.mem_cons_of_mem _ (List.mem_filter.mpr ⟨mem_lpairs h2, ?_⟩)), (h.2.2 j w h2).2⟩
    by_cases hji : j + 1 = i
    · have hc := cv_cat1 (ad := ad) (h3 hji)
      simp [h1, h4, hc]
    · simp [h1, h4, hji]
theorem LR.ext {σ σ' : AS} {ad ad' : Nat → Nat → Nat} {nL : Nat} {L : List (Option AVal)} {ls : Array Slot} (h : LR σ ad nL L ls) (x : Ext σ ad σ' ad') : LR σ' ad' nL L ls := ⟨h.1, h.2.1, fun i v hv => ⟨by rw [ext_cv x (h.2.2 i v hv).2]; exact (h.2.2 i v hv).1, ext_okv x (h.2.2 i v hv).2⟩⟩

