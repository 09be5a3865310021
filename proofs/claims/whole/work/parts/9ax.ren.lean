/-! Names may be given anew: the lists, rows and arrays that a constructor made are numbered as they were in the first class. -/
section REN
def pir (c i : Nat) : Nat := if c = 0 then (if i = 1 then 2 else if i = 2 then 1 else i) else if c = 8 ∨ c = 20 then (if i = 4 then 0 else if i < 4 then i + 1 else i) else i
def rho (c i : Nat) : Nat := if c = 0 then (if i = 1 then 2 else if i = 2 then 1 else i) else if c = 8 ∨ c = 20 then (if i = 0 then 4 else if i < 5 then i - 1 else i) else i
theorem pir_rho (c i : Nat) : pir c (rho c i) = i := by
  unfold pir rho
  by_cases h0 : c = 0
  · rw [if_pos h0, if_pos h0]
    by_cases h1 : i = 1
    · subst h1; rfl
    · by_cases h2 : i = 2
      · subst h2; rfl
      · rw [if_neg h1, if_neg h2, if_neg h1, if_neg h2]
  · rw [if_neg h0, if_neg h0]
    by_cases h8 : c = 8 ∨ c = 20
    · rw [if_pos h8, if_pos h8]
      by_cases h1 : i = 0
      · subst h1; rfl
      · rw [if_neg h1]
        by_cases h2 : i < 5
        · rw [if_pos h2, if_neg (by omega), if_pos (by omega)]; omega
        · rw [if_neg h2, if_neg (by omega), if_neg (by omega)]
    · rw [if_neg h8, if_neg h8]
theorem rho_pir (c i : Nat) : rho c (pir c i) = i := by
  unfold pir rho
  by_cases h0 : c = 0
  · rw [if_pos h0, if_pos h0]
    by_cases h1 : i = 1
    · subst h1; rfl
    · by_cases h2 : i = 2
      · subst h2; rfl
      · rw [if_neg h1, if_neg h2, if_neg h1, if_neg h2]
  · rw [if_neg h0, if_neg h0]
    by_cases h8 : c = 8 ∨ c = 20
    · rw [if_pos h8, if_pos h8]
      by_cases h1 : i = 4
      · subst h1; rfl
      · rw [if_neg h1]
        by_cases h2 : i < 4
        · rw [if_pos h2, if_neg (by omega), if_pos (by omega)]; omega
        · rw [if_neg h2, if_neg (by omega), if_neg (by omega)]
    · rw [if_neg h8, if_neg h8]
theorem pir_o {c i : Nat} (h : ¬ (c = 0 ∨ c = 8 ∨ c = 20)) : pir c i = i := by
  unfold pir
  rw [if_neg (fun e => h (Or.inl e)), if_neg (fun e => h (Or.inr e))]
/-- enough things that are new -/
def Many (σ : AS) : Prop := 3 ≤ cnt σ 0 ∧ 5 ≤ cnt σ 8 ∧ 5 ≤ cnt σ 20
theorem pir_lt {σ : AS} (hn : Many σ) {c i : Nat} (h : i < cnt σ c) : pir c i < cnt σ c := by
  obtain ⟨n0, n8, n20⟩ := hn
  unfold pir
  by_cases h0 : c = 0
  · rw [if_pos h0]
    rw [h0] at h ⊢
    by_cases h1 : i = 1
    · rw [if_pos h1]; omega
    · rw [if_neg h1]
      by_cases h2 : i = 2
      · rw [if_pos h2]; omega
      · rw [if_neg h2]; exact h
  · rw [if_neg h0]
    by_cases h8 : c = 8 ∨ c = 20
    · rw [if_pos h8]
      have n5 : 5 ≤ cnt σ c := by rcases h8 with e | e <;> rw [e] <;> assumption
      by_cases h1 : i = 4
      · rw [if_pos h1]; omega
      · rw [if_neg h1]
        by_cases h2 : i < 4
        · rw [if_pos h2]; omega
        · rw [if_neg h2]; exact h
    · rw [if_neg h8]; exact h
theorem rho_lt {σ : AS} (hn : Many σ) {c i : Nat} (h : i < cnt σ c) : rho c i < cnt σ c := by
  obtain ⟨n0, n8, n20⟩ := hn
  unfold rho
  by_cases h0 : c = 0
  · rw [if_pos h0]
    rw [h0] at h ⊢
    by_cases h1 : i = 1
    · rw [if_pos h1]; omega
    · rw [if_neg h1]
      by_cases h2 : i = 2
      · rw [if_pos h2]; omega
      · rw [if_neg h2]; exact h
  · rw [if_neg h0]
    by_cases h8 : c = 8 ∨ c = 20
    · rw [if_pos h8]
      have n5 : 5 ≤ cnt σ c := by rcases h8 with e | e <;> rw [e] <;> assumption
      by_cases h1 : i = 0
      · rw [if_pos h1]; omega
      · rw [if_neg h1]
        by_cases h2 : i < 5
        · rw [if_pos h2]; omega
        · rw [if_neg h2]; exact h
    · rw [if_neg h8]; exact h
def rn (n : Nm) : Nm := (n.1, rho n.1 n.2)
def rno (c : Nat) (r : Option Nm) : Option Nm := if c = 27 then r else r.map rn
def renS (σ : AS) : AS := (σ.1, fun c f i => gI σ c f (pir c i), fun c f i => rno c (gR σ c f (pir c i)), fun c i => gN σ c (pir c i), fun c i j => gA σ c (pir c i) j, fun c i j => rno c (gQ σ c (pir c i) j), fun c i j => gL σ c (pir c i) j)
theorem cnt_ren (σ : AS) (c : Nat) : cnt (renS σ) c = cnt σ c := rfl
theorem gI_ren (σ : AS) (c f i : Nat) : gI (renS σ) c f i = gI σ c f (pir c i) := rfl
theorem gR_ren (σ : AS) (c f i : Nat) : gR (renS σ) c f i = rno c (gR σ c f (pir c i)) := rfl
theorem gN_ren (σ : AS) (c i : Nat) : gN (renS σ) c i = gN σ c (pir c i) := rfl
theorem gA_ren (σ : AS) (c i j : Nat) : gA (renS σ) c i j = gA σ c (pir c i) j := rfl
theorem gQ_ren (σ : AS) (c i j : Nat) : gQ (renS σ) c i j = rno c (gQ σ c (pir c i) j) := rfl
theorem gL_ren (σ : AS) (c i j : Nat) : gL (renS σ) c i j = gL σ c (pir c i) j := rfl
/-- the places go with the names -/
def adr (ad : Nat → Nat → Nat) (c i : Nat) : Nat := ad c (pir c i)
theorem adn_rn (ad : Nat → Nat → Nat) (n : Nm) : adn (adr ad) (rn n) = adn ad n := by
  show ad n.1 (pir n.1 (rho n.1 n.2)) = ad n.1 n.2
  rw [pir_rho]
theorem map_rno (ad : Nat → Nat → Nat) {c : Nat} (h : c ≠ 27) (r : Option Nm) : (rno c r).map (adn (adr ad)) = r.map (adn ad) := by
  unfold rno
  rw [if_neg h]
  cases r with
  | none => rfl
  | some n => exact congrArg some (adn_rn ad n)
theorem okn_rno {σ : AS} (hn : Many σ) {c : Nat} {r : Option Nm} (h : okn σ r) : okn (renS σ) (rno c r) := by
  unfold rno
  split
  · exact h
  · intro n e
    cases r with
    | none => cases e
    | some m =>
      cases e
      exact rho_lt hn (h m rfl)
theorem fv_ren {ad : Nat → Nat → Nat} {σ : AS} {c i : Nat} (h : c ≠ 27) : fv (adr ad) (renS σ) c i = fv ad σ c (pir c i) := by
  funext f
  unfold fv
  rw [gR_ren, gI_ren, map_rno ad h]
theorem acell0_ren {G : GG} {ad : Nat → Nat → Nat} {σ : AS} {c i : Nat} : acell0 G (adr ad) (renS σ) c i = acell0 G ad σ c (pir c i) := by
  by_cases h : c = 23
  · subst h
    show arrV (G.2.1 3) (gN (renS σ) 23 i) (fun j => va_rf ((gQ (renS σ) 23 i j).map (adn (adr ad)))) = arrV (G.2.1 3) (gN σ 23 (pir 23 i)) (fun j => va_rf ((gQ σ 23 (pir 23 i) j).map (adn ad)))
    have e : (fun j => va_rf ((gQ (renS σ) 23 i j).map (adn (adr ad)))) = (fun j => va_rf ((gQ σ 23 (pir 23 i) j).map (adn ad))) := by
      funext j
      rw [gQ_ren, map_rno ad (by decide)]
    rw [e, gN_ren]
  · by_cases h24 : c = 24
    · subst h24; rfl
    · have a3 : aty c ≠ 3 := by
        unfold aty
        split <;> first | decide | exact absurd rfl h | exact absurd rfl h24
      have a4 : aty c ≠ 4 := by
        unfold aty
        split <;> first | decide | exact absurd rfl h | exact absurd rfl h24
      rw [acell0_i (adr ad) rfl a3 a4, acell0_i ad rfl a3 a4]
      rfl
theorem acell_ren {G : GG} {ad : Nat → Nat → Nat} {σ : AS} {c i : Nat} : acell G (adr ad) (renS σ) c i = acell G ad σ c (pir c i) := by
  unfold acell
  rw [acell0_ren]
  by_cases h : c = 0 ∨ c = 8 ∨ c = 20
  · rw [fixz_o (by omega), fixz_o (by omega)]
  · rw [pir_o h]
theorem fixd_pir {c i : Nat} : fixd c (pir c i) ↔ fixd c i := by
  by_cases h : c = 0 ∨ c = 8 ∨ c = 20
  · unfold fixd; omega
  · rw [pir_o h]
theorem pir_fixd {c i : Nat} (h : fixd c i) : pir c i = i := pir_o (by unfold fixd at h; omega)
theorem Rep.ren {G : GG} {ad : Nat → Nat → Nat} {σ : AS} {H : Heap} (hn : Many σ) (h : Rep G ad σ H) : Rep G (adr ad) (renS σ) H := by
  obtain ⟨h1, h2, h3, h4, h5, h6, h7, h8⟩ := h
  refine ⟨fun c i hi r hr => ?_, fun c i a b hi => ?_, fun c i c' i' hi hi' hf h31 e => ?_, fun c i hi => ?_, h5, fun c f i hi => ?_, fun c i j hi => ?_, h8⟩
  · have := h1 c (pir c i) (pir_lt hn hi) r hr
    rw [fv_ren (by have := cls_lt hr; omega)]
    exact this
  · rw [acell_ren]
    exact h2 c (pir c i) a b (pir_lt hn hi)
  · obtain ⟨rfl, e2⟩ := h3 c (pir c i) c' (pir c' i') (pir_lt hn hi) (pir_lt hn hi') (fun k => hf (fixd_pir.mp k)) h31 e
    refine ⟨rfl, ?_⟩
    rw [← rho_pir c i, ← rho_pir c i', e2]
  · obtain ⟨a, b, k⟩ := h4 c (pir c i) (pir_lt hn hi)
    refine ⟨a, fun z => b (fun q => z (fixd_pir.mp q)), fun z => ?_⟩
    have := k (fixd_pir.mpr z)
    refine ⟨?_, this.2⟩
    show ad c (pir c i) = gF G c i
    rw [this.1, pir_fixd z]
  · exact okn_rno hn (h6 c f (pir c i) (pir_lt hn hi))
  · exact okn_rno hn (h7 c (pir c i) j (pir_lt hn hi))
theorem Ext.ren {σ σ' : AS} {ad ad' : Nat → Nat → Nat} (h0 : cnt σ 0 = 0 ∧ cnt σ 8 = 0 ∧ cnt σ 20 = 0) (h : Ext σ ad σ' ad') : Ext σ ad (renS σ') (adr ad') := fun c i hi => by
  have e : pir c i = i := pir_o (by rintro (rfl | rfl | rfl) <;> omega)
  refine ⟨(h c i hi).1, ?_⟩
  show ad' c (pir c i) = ad c i
  rw [e]
  exact (h c i hi).2
/-- a method that made them may answer with the other names -/
theorem AMet.ren {G : GG} {l : Launch} {M : Mth} {d mc ms : Nat} {as : List AVal} {σ : AS} {post post1 : Option AVal → AS → Prop} (h : AMet G l M d mc ms as σ post1) (h0 : cnt σ 0 = 0 ∧ cnt σ 8 = 0 ∧ cnt σ 20 = 0) (hp : ∀ v s, post1 v s → v = none ∧ Many s ∧ post none (renS s)) : AMet G l M d mc ms as σ post := fun ad => MetFree.mono (h ad) (fun _ _ h => h) (fun _ _ _ _ _ h => h) (fun _ _ _ _ _ ⟨⟨v, ad', σ', h1, h2, h3, h4, h5⟩, hL⟩ => ⟨by
    obtain ⟨hv, hm, hq⟩ := hp v σ' h5
    subst hv
    exact ⟨none, adr ad', renS σ', h1, h2.ren hm, h3.ren h0, fun w hw => (by cases hw), hq⟩, hL⟩)
theorem XO.ren {σ s : AS} (h : XO σ s) : XO σ (renS s) := h.tr ⟨⟨rfl, fun _ _ => rfl, fun _ _ => rfl, fun _ => rfl, fun _ _ => rfl, fun _ _ => rfl, fun _ _ => rfl⟩, fun _ => rfl⟩
def rnT (t : Nat × Nat × Nat × Nat × Nat) : Nat × Nat × Nat × Nat × Nat := (t.1, t.2.1, rho t.1 t.2.2.1, rn t.2.2.2)
def rnN (t : Nat × Nat × Nat) : Nat × Nat × Nat := (t.1, rho t.1 t.2.1, t.2.2)
theorem Gr.ren {σ : AS} {LR : List (Nat × Nat × Nat × Nat × Nat)} {LN : List (Nat × Nat × Nat)} {C : List (Nat × Nat)} {k10 k13 : Int32} (h : Gr σ LR LN C k10 k13) (hn : Many σ) (h27 : LR.all (fun t => !(t.1 == 27)) = true) : Gr (renS σ) (LR.map rnT) (LN.map rnN) C k10 k13 := by
  obtain ⟨g1, g2, g3, g4, g5, g6, g7, g8⟩ := h
  refine ⟨fun t ht => ?_, fun t ht => ?_, g3, fun c f i a b e => g4 c f _ a b e, fun c i j a => g5 c _ j a, fun i j => ?_, g7, g8⟩
  · obtain ⟨q, hq, rfl⟩ := List.mem_map.mp ht
    obtain ⟨a, b⟩ := g1 q hq
    have hc : q.1 ≠ 27 := fun e => by
      have := List.all_eq_true.mp h27 q hq
      rw [e] at this
      simp at this
    refine ⟨?_, rho_lt hn b⟩
    show rno q.1 (gR σ q.1 q.2.1 (pir q.1 (rho q.1 q.2.2.1))) = some (rn q.2.2.2)
    rw [pir_rho, a]
    unfold rno
    rw [if_neg hc]
    rfl
  · obtain ⟨q, hq, rfl⟩ := List.mem_map.mp ht
    obtain ⟨a, b⟩ := g2 q hq
    refine ⟨?_, rho_lt hn b⟩
    show gN σ q.1 (pir q.1 (rho q.1 q.2.1)) = q.2.2
    rw [pir_rho, a]
  · show rno 23 (gQ σ 23 (pir 23 i) j) = none
    rw [g6]
    rfl
end REN
