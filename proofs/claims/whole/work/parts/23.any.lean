/-! readOne and readAny: the grammar of what is wanted, as a function with fuel. -/
section ANY
variable {G : GG} {l : Launch} {d : Nat} {post : Option AVal → AS → Prop} {σ : AS} {kk nn : Nat}
/-- fault and place, or the token behind; the steps -/
abbrev RR : Type := Out × List Int32
/-- F (one = true) or E from the token at i on, dep deep; or waits, and waits -/
def rd (n : Nat) (b : Nat → Int32) : Nat → Bool → Nat → Nat → Bool → Bool → RR
  | 0, _, _, _, _, _ => ((1, 0), [])
  | f + 1, true, dep, i, _, _ =>
    if isW n b i 4 = true then
      (if dep < 8 then (if (rd n b f true (dep + 1) (tE n b i) false false).1.1 = 0 then ((rd n b f true (dep + 1) (tE n b i) false false).1, (rd n b f true (dep + 1) (tE n b i) false false).2 ++ [800000]) else ((rd n b f true (dep + 1) (tE n b i) false false).1, []))
      else ((2, tS n b i), []))
    else if isG n b i 40 = true then
      (if dep < 8 then (if (rd n b f false (dep + 1) (tE n b i) false false).1.1 = 0 then (if isG n b (rd n b f false (dep + 1) (tE n b i) false false).1.2 41 = true then ((0, tE n b (rd n b f false (dep + 1) (tE n b i) false false).1.2), (rd n b f false (dep + 1) (tE n b i) false false).2) else ((1, tS n b (rd n b f false (dep + 1) (tE n b i) false false).1.2), [])) else ((rd n b f false (dep + 1) (tE n b i) false false).1, []))
      else ((2, tS n b i), []))
    else if (rm n b i).1.1 = 0 then ((rm n b i).1, [(rm n b i).2]) else ((rm n b i).1, [])
  | f + 1, false, dep, i, orW, andW =>
    if (rd n b f true dep i false false).1.1 = 0 then
      (if isW n b (rd n b f true dep i false false).1.2 11 = true then
        ((rd n b f false dep (tE n b (rd n b f true dep i false false).1.2) orW true).1, ((rd n b f true dep i false false).2 ++ (if andW = true then [900000] else [])) ++ (rd n b f false dep (tE n b (rd n b f true dep i false false).1.2) orW true).2)
      else if isW n b (rd n b f true dep i false false).1.2 12 = true then
        ((rd n b f false dep (tE n b (rd n b f true dep i false false).1.2) true false).1, ((rd n b f true dep i false false).2 ++ (if andW = true then [900000] else []) ++ (if orW = true then [1000000] else [])) ++ (rd n b f false dep (tE n b (rd n b f true dep i false false).1.2) true false).2)
      else ((rd n b f true dep i false false).1, (rd n b f true dep i false false).2 ++ (if andW = true then [900000] else []) ++ (if orW = true then [1000000] else [])))
    else ((rd n b f true dep i false false).1, [])
/-- the list s behind the first m of bS -/
def app (bS : Nat → Int32) (m : Nat) (s : List Int32) : Nat → Int32 := fun i => if i < m then bS i else s.getD (i - m) 0
/-- the state behind a part read: the steps s are put behind the m of the steps' row -/
def AfterL (σ σ' : AS) (n : Nat) (b : Nat → Int32) (m i : Nat) (bS : Nat → Int32) (o : RR) : Prop := RF σ σ' ∧ St σ' ∧ RW σ' 0 n b ∧ ((o.1.1 = 0 ∧ Tok σ' n b o.1.2 ∧ i < o.1.2 ∧ o.1.2 ≤ n ∧ (m + o.2.length) + i ≤ m + o.1.2 ∧ RW σ' 1 (m + o.2.length) (app bS m o.2) ∧ gI σ' 10 0 0 = gI σ 10 0 0 ∧ gI σ' 10 1 0 = gI σ 10 1 0) ∨ (¬ o.1.1 = 0 ∧ gI σ' 10 0 0 = o.1.1 ∧ gI σ' 10 1 0 = nI o.1.2))
theorem RW.fits {r n : Nat} {b b' : Nat → Int32} (h : RW σ r n b) (e : ∀ i, i < n → b i = b' i) : RW σ r n b' := by
  obtain ⟨a, h1, h2, h3, h4, h5⟩ := h
  exact ⟨a, h1, h2, h3, h4, fun i hi => (h5 i hi).trans (e i hi)⟩
theorem app_snoc {bS : Nat → Int32} {m : Nat} {s : List Int32} {v : Int32} : ∀ i, i < m + s.length + 1 → snoc (app bS m s) (m + s.length) v i = app bS m (s ++ [v]) i := by
  intro i hi
  unfold snoc app
  by_cases h1 : i = m + s.length
  · rw [if_pos h1, if_neg (by omega), h1, show m + s.length - m = s.length by omega]
    simp
  · rw [if_neg h1]
    by_cases h2 : i < m
    · rw [if_pos h2, if_pos h2]
    · rw [if_neg h2, if_neg h2]
      have h3 : i - m < s.length := by omega
      simp [List.getD_eq_getElem?_getD, List.getElem?_append_left h3]
theorem app_nil {bS : Nat → Int32} {m : Nat} : ∀ i, i < m → app bS m [] i = bS i := fun i hi => if_pos hi
theorem app_app {bS : Nat → Int32} {m : Nat} {s s' : List Int32} : ∀ i, i < m + s.length + s'.length → app (app bS m s) (m + s.length) s' i = app bS m (s ++ s') i := by
  intro i hi
  unfold app
  by_cases h1 : i < m
  · rw [if_pos (by omega), if_pos h1, if_pos h1]
  · rw [if_neg h1, if_neg h1]
    by_cases h2 : i < m + s.length
    · rw [if_pos h2]
      have h3 : i - m < s.length := by omega
      simp [List.getD_eq_getElem?_getD, List.getElem?_append_left h3]
    · rw [if_neg h2]
      have h3 : s.length ≤ i - m := by omega
      simp [List.getD_eq_getElem?_getD, List.getElem?_append_right h3, show i - (m + s.length) = i - m - s.length by omega]
end ANY
