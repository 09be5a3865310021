/-! Row.add; the reader of asks. -/
section READ
variable {G : GG} {l : Launch} {d : Nat} {post : Option AVal → AS → Prop} {σ : AS} {kk nn : Nat}
/-- the array of row r, and its length -/
def rArr (r : Nat) : Nat := if r = 5 then 6 else r
def rLen : Nat → Nat
  | 0 => 1000
  | 1 => 1000
  | 2 => 2600
  | 3 => 2600
  | 4 => 6
  | _ => 40
theorem st_row (hS : St σ) : ∀ r, r < 6 → gR σ 8 0 r = some (20, rArr r) ∧ gN σ 20 (rArr r) = rLen r
  | 0, _ => ⟨St.get hS 8 0 0 20 0 (by decide), St.len hS 20 0 1000 (by decide)⟩
  | 1, _ => ⟨St.get hS 8 0 1 20 1 (by decide), St.len hS 20 1 1000 (by decide)⟩
  | 2, _ => ⟨St.get hS 8 0 2 20 2 (by decide), St.len hS 20 2 2600 (by decide)⟩
  | 3, _ => ⟨St.get hS 8 0 3 20 3 (by decide), St.len hS 20 3 2600 (by decide)⟩
  | 4, _ => ⟨St.get hS 8 0 4 20 4 (by decide), St.len hS 20 4 6 (by decide)⟩
  | 5, _ => ⟨St.get hS 8 0 5 20 6 (by decide), St.len hS 20 6 40 (by decide)⟩
  | r + 6, h => absurd h (by omega)
theorem rLen_le (r : Nat) : rLen r ≤ 2600 := by
  unfold rLen
  split <;> decide
theorem rArr_inj {r r' : Nat} (h : r < 6) (h' : r' < 6) (e : rArr r = rArr r') : r = r' := by
  unfold rArr at e
  split at e <;> split at e <;> omega
theorem RW.mk (hS : St σ) {r n : Nat} {b : Nat → Int32} (hr : r < 6) (h1 : gI σ 8 1 r = nI n) (h2 : n ≤ rLen r) (h3 : ∀ i, i < n → gA σ 20 (rArr r) i = b i) : RW σ r n b := by
  obtain ⟨k1, k2⟩ := st_row hS r hr
  have := rLen_le r
  exact ⟨rArr r, k1, h1, by omega, by omega, h3⟩
theorem RW.out (hS : St σ) {r n : Nat} {b : Nat → Int32} (hr : r < 6) (h : RW σ r n b) : gI σ 8 1 r = nI n ∧ n ≤ rLen r ∧ ∀ i, i < n → gA σ 20 (rArr r) i = b i := by
  obtain ⟨k1, k2⟩ := st_row hS r hr
  obtain ⟨a, h1, h2, h3, h4, h5⟩ := h
  rw [k1] at h1
  cases h1
  exact ⟨h2, by omega, h5⟩
/-- the number v was put behind row r's n -/
def RAdd (σ σ' : AS) (r n : Nat) (v : Int32) : Prop := sameK (fun c => c ≠ 8 ∧ c ≠ 20) σ σ' ∧ (∀ c, cnt σ' c = cnt σ c) ∧ (∀ c f i, gR σ' c f i = gR σ c f i) ∧ (∀ c i, gN σ' c i = gN σ c i) ∧ gI σ' 8 1 r = nI (n + 1) ∧ (∀ r', r' ≠ r → gI σ' 8 1 r' = gI σ 8 1 r') ∧ (∀ a j, gA σ' 20 a j = if a = rArr r ∧ j = n then v else gA σ 20 a j)
theorem RAdd.st {σ' : AS} {r n : Nat} {v : Int32} (h : RAdd σ σ' r n v) (hS : St σ) : St σ' := hS.of fun c _ => ⟨fun f i _ => h.2.2.1 c f i, fun i _ => h.2.2.2.1 c i, Nat.le_of_eq (h.2.1 c).symm⟩
theorem RAdd.self {σ' : AS} {r n : Nat} {v : Int32} {b : Nat → Int32} (h : RAdd σ σ' r n v) (hS : St σ) (hr : r < 6) (hn : n < rLen r) (k : RW σ r n b) : RW σ' r (n + 1) (fun i => if i = n then v else b i) := by
  obtain ⟨k1, k2, k3⟩ := k.out hS hr
  refine RW.mk (h.st hS) hr h.2.2.2.2.1 hn (fun i hi => ?_)
  rw [h.2.2.2.2.2.2]
  by_cases e : i = n
  · rw [if_pos ⟨rfl, e⟩, if_pos e]
  · rw [if_neg (fun q => e q.2), if_neg e]
    exact k3 i (by omega)
theorem RAdd.other {σ' : AS} {r n r' n' : Nat} {v : Int32} {b : Nat → Int32} (h : RAdd σ σ' r n v) (hS : St σ) (hr : r < 6) (hr' : r' < 6) (hne : r' ≠ r) (k : RW σ r' n' b) : RW σ' r' n' b := by
  obtain ⟨k1, k2, k3⟩ := k.out hS hr'
  refine RW.mk (h.st hS) hr' ((h.2.2.2.2.2.1 r' hne).trans k1) k2 (fun i hi => ?_)
  rw [h.2.2.2.2.2.2, if_neg (fun q => hne (rArr_inj hr' hr q.1))]
  exact k3 i hi
theorem c_radd {r n : Nat} {v : Int32} {b : Nat → Int32} (hS : St σ) (hr : r < 6) (hR : RW σ r n b) (hn : n < rLen r) (h : ∀ σ', RAdd σ σ' r n v → post none σ') : AMet G l M_X7_add d 0 0 [xR (some (8, r)), xI v] σ post := by
  obtain ⟨k1, k2, k3⟩ := hR.out hS hr
  obtain ⟨q1, q2⟩ := st_row hS r hr
  have hl := rLen_le r
  refine AMet.of rfl (Nat.le_of_ble_eq_true rfl) (vc_X7_add ?_)
  rw [k1, nI_clamp (by omega), nI_1]
  refine ⟨fun c => absurd c (nI_pos (by omega)), fun _ => ⟨rArr r, q1, fun c => ?_, fun _ => ⟨?_, ?_⟩⟩⟩
  · rw [q2] at c
    exact absurd ((nI_leI (by omega) (by omega)).mp c) (by omega)
  · rw [q2]
    exact vp_in_nI hn (by omega)
  · refine h _ ⟨fun c hc => (eqK_sA hc.2).tr (eqK_sI hc.1), fun _ => rfl, fun _ _ _ => rfl, fun _ _ => rfl, gI_self, fun r' h' => ?_, fun a j => ?_⟩
    · rw [gI_o (fun e => h' e.2.2)]
      rfl
    · show gA (sA σ 20 (rArr r) n v) 20 a j = _
      rw [gA_sA]
      by_cases e : a = rArr r ∧ j = n
      · rw [if_pos e, if_pos ⟨rfl, e.1, e.2⟩]
      · rw [if_neg e, if_neg (fun q => e q.2)]
/-- the word for a mark that stands here -/
def mkH (n : Nat) (b : Nat → Int32) (i : Nat) : Int32 := if isW n b i 5 = true then 0 else if isW n b i 6 = true then 1 else if isW n b i 7 = true then 2 else if isW n b i 8 = true then 3 else if isW n b i 9 = true then 4 else if isW n b i 10 = true then 6 else -1
theorem c_markHere {n i : Nat} {b : Nat → Int32} (hS : St σ) (hR : RW σ 0 n b) (hi : i ≤ n) (hT : Tok σ n b i) (h : post (some (xI (mkH n b i))) σ) : AMet G l M_X2_markHere (d + 5) 0 0 [xR (some (3, 0))] σ post := by
  have N : ∀ {x : Bool}, bI x = 0 → ¬ x = true := fun h e => bI_ne.mpr e h
  refine AMet.of rfl (Nat.le_of_ble_eq_true rfl) (vc_X2_markHere (d := d + 4) hS (c_isWord hS hR hi hT ⟨hS, fun c5 => c_isWord hS hR hi hT ⟨hS, fun c6 => c_isWord hS hR hi hT ⟨hS, fun c7 => c_isWord hS hR hi hT ⟨hS, fun c8 => c_isWord hS hR hi hT ⟨hS, fun c9 => c_isWord hS hR hi hT ⟨fun c10 => ?_, fun c10 => ?_⟩, fun c9 => ?_⟩, fun c8 => ?_⟩, fun c7 => ?_⟩, fun c6 => ?_⟩, fun c5 => ?_⟩))
  · rw [mkH, if_neg (N c5), if_neg (N c6), if_neg (N c7), if_neg (N c8), if_neg (N c9), if_neg (N c10)] at h
    exact h
  · rw [mkH, if_neg (N c5), if_neg (N c6), if_neg (N c7), if_neg (N c8), if_neg (N c9), if_pos (bI_ne.mp c10)] at h
    exact h
  · rw [mkH, if_neg (N c5), if_neg (N c6), if_neg (N c7), if_neg (N c8), if_pos (bI_ne.mp c9)] at h
    exact h
  · rw [mkH, if_neg (N c5), if_neg (N c6), if_neg (N c7), if_pos (bI_ne.mp c8)] at h
    exact h
  · rw [mkH, if_neg (N c5), if_neg (N c6), if_pos (bI_ne.mp c7)] at h
    exact h
  · rw [mkH, if_neg (N c5), if_pos (bI_ne.mp c6)] at h
    exact h
  · rw [mkH, if_pos (bI_ne.mp c5)] at h
    exact h
end READ
