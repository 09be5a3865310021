/-! The constructors: what is known of a state grows. -/
section INIT
variable {G : GG} {l : Launch} {d : Nat} {post : Option AVal → AS → Prop} {σ : AS} {kk nn : Nat}
def Gr (σ : AS) (LR : List (Nat × Nat × Nat × Nat × Nat)) (LN : List (Nat × Nat × Nat)) (C : List (Nat × Nat)) (k10 k13 : Int32) : Prop :=
  (∀ t ∈ LR, gR σ t.1 t.2.1 t.2.2.1 = some t.2.2.2 ∧ t.2.2.1 < cnt σ t.1) ∧ (∀ t ∈ LN, gN σ t.1 t.2.1 = t.2.2 ∧ t.2.1 < cnt σ t.1) ∧ (∀ p ∈ C, cnt σ p.1 = p.2) ∧
  (∀ c f i, c < 14 → ¬ (c = 10 ∧ f = 1) → ¬ (c = 13 ∧ f = 26) → gI σ c f i = 0) ∧ (∀ c i j, c = 21 ∨ c = 26 → gA σ c i j = 0) ∧ (∀ i j, gQ σ 23 i j = none) ∧ gI σ 10 1 0 = k10 ∧ gI σ 13 26 0 = k13
variable {LR : List (Nat × Nat × Nat × Nat × Nat)} {LN : List (Nat × Nat × Nat)} {C : List (Nat × Nat)} {k10 k13 : Int32}
theorem Gr.c (h : Gr σ LR LN C k10 k13) {c m : Nat} (hc : (c, m) ∈ C) : cnt σ c = m := h.2.2.1 (c, m) hc
def upC (C : List (Nat × Nat)) (c m : Nat) : List (Nat × Nat) := C.map (fun p => if p.1 = c then (c, m + 1) else p)
theorem Gr.nA (h : Gr σ LR LN C k10 k13) {c m n : Nat} (hc : (c, m) ∈ C) (h10 : c = 10 → k10 = 0) (h13 : c = 13 → k13 = 0) : Gr (nA σ c n) LR ((c, m, n) :: LN) (upC C c m) k10 k13 := by
  have hm := h.c hc
  obtain ⟨g1, g2, g3, g4, g5, g6, g7, g8⟩ := h
  refine ⟨fun t ht => ?_, fun t ht => ?_, fun p hp => ?_, fun x f i a b e => ?_, fun x i j a => ?_, fun i j => ?_, ?_, ?_⟩
  · obtain ⟨a, b⟩ := g1 t ht
    rw [gR_nA, cnt_nA]
    by_cases e : t.1 = c
    · rw [if_neg (fun z => by rw [z.2, e] at b; exact absurd b (Nat.lt_irrefl _)), if_pos e]
      exact ⟨a, by rw [e] at b; omega⟩
    · rw [if_neg (fun z => e z.1), if_neg e]; exact ⟨a, b⟩
  · rw [gN_nA, cnt_nA]
    rcases List.mem_cons.mp ht with rfl | ht
    · dsimp only
      rw [if_pos ⟨rfl, hm.symm⟩, if_pos rfl]
      exact ⟨rfl, by omega⟩
    · obtain ⟨a, b⟩ := g2 t ht
      by_cases e : t.1 = c
      · rw [if_neg (fun z => by rw [z.2, e] at b; exact absurd b (Nat.lt_irrefl _)), if_pos e]
        exact ⟨a, by rw [e] at b; omega⟩
      · rw [if_neg (fun z => e z.1), if_neg e]; exact ⟨a, b⟩
  · obtain ⟨q, hq, rfl⟩ := List.mem_map.mp hp
    rw [cnt_nA]
    by_cases e : q.1 = c
    · rw [if_pos e]; dsimp only; rw [if_pos rfl, hm]
    · rw [if_neg e, if_neg e]; exact g3 q hq
  · rw [gI_nA]; split
    · rfl
    · exact g4 x f i a b e
  · rw [gA_nA]; split
    · rfl
    · exact g5 x i j a
  · rw [gQ_nA]; split
    · rfl
    · exact g6 i j
  · rw [gI_nA]; split
    · rename_i z; exact (h10 z.1.symm).symm
    · exact g7
  · rw [gI_nA]; split
    · rename_i z; exact (h13 z.1.symm).symm
    · exact g8
theorem Gr.sR (h : Gr σ LR LN C k10 k13) {c f i : Nat} {v : Nm} {m : Nat} (hc : (c, m) ∈ C) (hi : i < m) (hn : LR.all (fun t => !(t.1 == c && (t.2.1 == f && t.2.2.1 == i))) = true) : Gr (sR σ c f i (some v)) ((c, f, i, v.1, v.2) :: LR) LN C k10 k13 := by
  have hm := h.c hc
  obtain ⟨g1, g2, g3, g4, g5, g6, g7, g8⟩ := h
  refine ⟨fun t ht => ?_, g2, g3, g4, g5, g6, g7, g8⟩
  rw [gR_sR, cnt_sR]
  rcases List.mem_cons.mp ht with rfl | ht
  · exact ⟨if_pos ⟨rfl, rfl, rfl⟩, by dsimp only; omega⟩
  · have := List.all_eq_true.mp hn t ht
    rw [if_neg (fun z => by rw [z.1, z.2.1, z.2.2] at this; simp at this)]
    exact g1 t ht
theorem Gr.sI0 (h : Gr σ LR LN C k10 k13) {c f i : Nat} (h1 : ¬ (c = 10 ∧ f = 1)) (h2 : ¬ (c = 13 ∧ f = 26)) : Gr (sI σ c f i 0) LR LN C k10 k13 := by
  obtain ⟨g1, g2, g3, g4, g5, g6, g7, g8⟩ := h
  refine ⟨g1, g2, g3, fun x y z a b e => ?_, g5, g6, ?_, ?_⟩
  · rw [gI_sI]; split
    · rfl
    · exact g4 x y z a b e
  · rw [gI_sI, if_neg (fun z => h1 ⟨z.1.symm, z.2.1.symm⟩)]; exact g7
  · rw [gI_sI, if_neg (fun z => h2 ⟨z.1.symm, z.2.1.symm⟩)]; exact g8
theorem Gr.s10 (h : Gr σ LR LN C k10 k13) {v : Int32} : Gr (sI σ 10 1 0 v) LR LN C v k13 := by
  obtain ⟨g1, g2, g3, g4, g5, g6, g7, g8⟩ := h
  refine ⟨g1, g2, g3, fun x y z a b e => ?_, g5, g6, ?_, ?_⟩
  · rw [gI_sI, if_neg (fun q => b ⟨q.1, q.2.1⟩)]; exact g4 x y z a b e
  · rw [gI_sI, if_pos ⟨rfl, rfl, rfl⟩]
  · rw [gI_sI, if_neg (by omega)]; exact g8
theorem Gr.s13 (h : Gr σ LR LN C k10 k13) {v : Int32} : Gr (sI σ 13 26 0 v) LR LN C k10 v := by
  obtain ⟨g1, g2, g3, g4, g5, g6, g7, g8⟩ := h
  refine ⟨g1, g2, g3, fun x y z a b e => ?_, g5, g6, ?_, ?_⟩
  · rw [gI_sI, if_neg (fun q => e ⟨q.1, q.2.1⟩)]; exact g4 x y z a b e
  · rw [gI_sI, if_neg (by omega)]; exact g7
  · rw [gI_sI, if_pos ⟨rfl, rfl, rfl⟩]
theorem a_list {q m : Nat} (g : Gr σ LR LN C k10 k13) (hc : (0, m) ∈ C) (hq : q < m) (hn : LR.all (fun t => !(t.1 == 0 && (t.2.1 == 1 && t.2.2.1 == q))) = true) (h : ∀ σ', XO σ σ' → Gr σ' ((0, 1, q, 23, 0) :: LR) LN C k10 k13 → post none σ') : AMet G l M_Jx4a65c_init_da8c8 (d + 3) 0 0 [xR (some (0, q))] σ post :=
  c_listInit (h _ ⟨(eqK_sI (by decide)).tr (eqK_sR (by decide)), fun _ => rfl⟩ ((g.sI0 (by omega) (by omega)).sR hc hq hn))
theorem a_row {r n m a : Nat} (g : Gr σ LR LN C k10 k13) (hn6 : n ≤ 60000000) (hc : (8, m) ∈ C) (hr : r < m) (hc2 : (20, a) ∈ C) (hc3 : (8, m) ∈ upC C 20 a) (hn : LR.all (fun t => !(t.1 == 8 && (t.2.1 == 0 && t.2.2.1 == r))) = true) (h : ∀ σ', XO σ σ' → Gr σ' ((8, 0, r, 20, a) :: LR) ((20, a, n) :: LN) (upC C 20 a) k10 k13 → post none σ') : AMet G l M_X7_init (d + 1) 1 n [xR (some (8, r)), xI (nI n)] σ post := by
  refine AMet.of rfl (Nat.le_of_ble_eq_true rfl) (vc_X7_init (d := d) ⟨fun z => absurd z (nI_pos (by omega)), fun z => ⟨n, 0, 0, nI_clamp (by omega), z, hn6, by omega, by omega, ?_⟩⟩)
  rw [g.c hc2]
  exact h _ ⟨(eqK_nA (by decide)).tr (eqK_sR (by decide)), fun i => by show gN (nA σ 20 n) 24 i = _; rw [gN_nA, if_neg (by omega)]⟩ ((g.nA hc2 (fun e => absurd e (by decide)) (fun e => absurd e (by decide))).sR hc3 hr hn)
theorem XO.nA {s : AS} (h : XO σ s) {c n : Nat} (h1 : c ≠ 27) (h2 : c ≠ 24) : XO σ (nA s c n) := h.tr ⟨eqK_nA (fun e => h1 e.symm), fun i => by rw [gN_nA, if_neg (fun e => h2 e.1.symm)]⟩
theorem XO.sR {s : AS} (h : XO σ s) {c f i : Nat} {v : Option Nm} (h1 : c ≠ 27) : XO σ (sR s c f i v) := h.tr ⟨eqK_sR (fun e => h1 e.symm), fun _ => rfl⟩
end INIT
