/-! words of the tables; methods -/
/-- all words of the tables that last -/
def TW : List Cond := lw_tbl.filter goodWord
theorem tw_of {w : Cond} (h : w ∈ lw_tbl) (g : goodWord w = true) : w ∈ TW := List.mem_filter.mpr ⟨h, g⟩
theorem tw_at {w : Cond} (i : Nat) (h : decide (lw_tbl[i]? = some w) = true) (g : goodWord w = true) : w ∈ TW := tw_of (List.mem_of_getElem? (of_decide_eq_true h)) g
theorem tw_good {w : Cond} (h : w ∈ TW) : (w.onTables && w.keeps) = true ∨ ∃ ty, w = .arrayClass ty := good_of_word (List.mem_filter.mp h).2
theorem tw_GoodIn {ws : List Cond} (h : ∀ w ∈ ws, w ∈ TW) : GoodIn TW ws := fun w hw => ⟨h w hw, tw_good (h w hw)⟩
/-- a method: name, code, locals, what it answers -/
abbrev Mth : Type := MethodName × ByteArray × Nat × Option FieldType
def mY (M : Mth) : MethodName := M.1
def mC (M : Mth) : ByteArray := M.2.1
def mL (M : Mth) : Nat := M.2.2.1
def mR (M : Mth) : Option FieldType := M.2.2.2
def mO (M : Mth) : String := M.1.cls
/-- a field's place in the tables -/
def FLo (own : String) (c f idx : Nat) : Prop := ∃ (r : vw_C) (ref : String), vwCl[c]? = some r ∧ f < r.2.2 ∧ Cond.fieldLink own idx ref (r.2.1 f).2.1 (r.2.1 f).2.2.1 ∈ TW ∧ ((r.2.1 f).1 = ref ∨ Cond.sameField ref (r.2.1 f).1 (r.2.1 f).2.1 (r.2.1 f).2.2.1 ∈ TW)
/-- what the tables say of a callee -/
def MW (M' : Mth) (n : Nat) : Prop := Cond.code (mY M') (mC M') (mL M') (mR M') ∈ TW ∧ Cond.initialized (mY M').cls ∈ TW ∧ mL M' ≤ 22 ∧ ((mY M').cls ≠ "java/lang/invoke/MethodHandle" ∧ (mY M').cls ≠ "java/lang/invoke/VarHandle" ∧ (parseMethodDescriptor (mY M').desc).map (fun d => d.parameters.length) = some n)

theorem tk_in : ∀ (k : Nat) (w : Cond), w ∈ ([tables_1_1, tables_1_2, tables_1_3, tables_1_4, tables_1_5, tables_1_6, tables_1_7].getD k []) → w ∈ lw_tbl := by
  intro k w h
  have h1 : w ∈ tables_1 := by
    unfold tables_1
    rcases k with _ | _ | _ | _ | _ | _ | _ | k
    · exact List.mem_append_left _ h
    · exact List.mem_append_right _ (List.mem_append_left _ h)
    · exact List.mem_append_right _ (List.mem_append_right _ (List.mem_append_left _ h))
    · exact List.mem_append_right _ (List.mem_append_right _ (List.mem_append_right _ (List.mem_append_left _ h)))
    · exact List.mem_append_right _ (List.mem_append_right _ (List.mem_append_right _ (List.mem_append_right _ (List.mem_append_left _ h))))
    · exact List.mem_append_right _ (List.mem_append_right _ (List.mem_append_right _ (List.mem_append_right _ (List.mem_append_right _ (List.mem_append_left _ h)))))
    · exact List.mem_append_right _ (List.mem_append_right _ (List.mem_append_right _ (List.mem_append_right _ (List.mem_append_right _ (List.mem_append_right _ h)))))
    · cases h
  exact List.mem_append_right _ h1
/-- a word by its table and place -/
theorem tw_k {w : Cond} (k i : Nat) (h : decide (([tables_1_1, tables_1_2, tables_1_3, tables_1_4, tables_1_5, tables_1_6, tables_1_7].getD k [])[i]? = some w) = true) (g : goodWord w = true) : w ∈ TW := tw_of (tk_in k w (List.mem_of_getElem? (of_decide_eq_true h))) g
theorem tw_s {w : Cond} (i : Nat) (h : decide ((k2_sels lw_privs)[i]? = some w) = true) (g : goodWord w = true) : w ∈ TW := tw_of (List.mem_append_left _ (List.mem_of_getElem? (of_decide_eq_true h))) g
def nestW : List (String × Nat × MethodName × String) := [("ExtrasOffice", 9, yX6_init, "ExtrasOffice"), ("ExtrasOffice", 23, yX2_init, "ExtrasOffice"), ("ExtrasOffice", 48, yX4_init, "ExtrasOffice"), ("ExtrasOffice", 55, yX3_init, "ExtrasOffice"), ("ExtrasOffice$AskReader", 11, yX9_init, "ExtrasOffice"), ("ExtrasOffice$Tokens", 74, yX11_within, "ExtrasOffice")]
