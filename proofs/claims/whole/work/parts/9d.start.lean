/-! The coupling at the start; the law from its first step on. -/
section START
variable {G : GG} {l : Launch} {d : Nat} {post : Option AVal → AS → Prop} {σ : AS} {kk nn : Nat}
theorem cl_lists : ∀ q, q < 6 → (0, 1, q, 23, 0) ∈ cLR := by decide
def fC : List (Nat × Nat) := [(0, 6), (2, 0), (6, 0), (11, 0)]
theorem inv_start (hS : St σ) (g : Gr σ cLR eLN fC (-1) (-1)) : Inv 0 σ := by
  have z : ∀ c f i, c < 14 → ¬ (c = 10 ∧ f = 1) → ¬ (c = 13 ∧ f = 26) → gI σ c f i = nI 0 := fun c f i a b e => (g.2.2.2.1 c f i a b e).trans nI_0.symm
  have n23 : gN σ 23 0 = 0 ∧ 0 < cnt σ 23 := g.2.1 (23, 0, 0) (by decide)
  have ref : ∀ q, q < 6 → gR σ 0 1 q = some (23, 0) := fun q hq => (g.1 _ (cl_lists q hq)).1
  have c0 : cnt σ 0 = 6 := g.c (by decide)
  have io : ∀ j, inObj (gQ σ 23 0 j) := fun j => by rw [g.2.2.2.2.2.1 0 j]; intro n h; cases h
  have al : ∀ q, q < 6 → ∀ e, AL σ q 0 e := fun q hq e => ⟨0, ref q hq, z 0 2 q (by decide) (by omega) (by omega), Nat.zero_le _, by rw [n23.1]; omega, fun i hi => absurd hi (Nat.not_lt_zero i), io, Or.inl ⟨rfl, n23.1⟩, n23.2⟩
  have rw0 : ∀ r, r < 6 → ∀ b, RW σ r 0 b := fun r hr b => RW.mk hS hr (z 8 1 r (by decide) (by omega) (by omega)) (Nat.zero_le _) (fun i hi => absurd hi (Nat.not_lt_zero i))
  refine ⟨0, 0, 2, 0, 0, 0, 0, 0, 0, 0, 0, 0, fun _ => none, fun _ => 0, fun _ => 0, fun _ => 0, fun _ => 0, fun _ => 0, fun _ => 0, fun _ _ => 0, fun _ => 0, fun _ => 0, fun _ => 0, fun _ _ => 0, fun _ _ _ => 0, fun _ => 0, fun _ _ => 0, fun _ => none, fun _ => 0, -1, ⟨⟨hS, al 0 (by decide) _, by omega, g.c (by decide), fun p hp => absurd hp (Nat.not_lt_zero p), (g.1 (7, 0, 0, 0, 2) (by decide)).1, al 2 (by decide) _, by omega, by omega, fun a ha => absurd ha (Nat.not_lt_zero a)⟩, ⟨fun p hp => absurd hp (Nat.not_lt_zero p), fun p hp => absurd hp (Nat.not_lt_zero p), fun a ha => absurd ha (Nat.not_lt_zero a)⟩, ⟨⟨fun q hq => ⟨0, fun _ => (0, 0), al q (by omega) _⟩, fun q q' hq _ _ => Or.inr (ref q (by omega)), n23.1, n23.2, io⟩, by omega, by omega, Or.inl rfl⟩, ⟨z 12 10 0 (by decide) (by omega) (by omega), z 5 2 0 (by decide) (by omega) (by omega), g.2.2.2.2.2.2.1⟩, ⟨rw0 0 (by decide) _, rw0 2 (by decide) _, rw0 3 (by decide) _, rw0 4 (by decide) _, rw0 5 (by decide) _⟩, fun p hp => absurd hp (Nat.not_lt_zero p), fun a ha => absurd ha (Nat.not_lt_zero a), ⟨al 1 (by decide) _, fun a ha => absurd ha (Nat.not_lt_zero a)⟩, ⟨al 5 (by decide) _, g.c (by decide), fun a ha => absurd ha (Nat.not_lt_zero a)⟩⟩, ?_, ?_⟩
  · exact ⟨by omega, by omega, ⟨by omega, fun i hi => absurd hi (Nat.not_lt_zero i)⟩, ⟨by omega, ⟨by omega, fun i hi => absurd hi (Nat.not_lt_zero i)⟩, fun a ha => absurd ha (Nat.not_lt_zero a)⟩, ⟨by omega, fun a ha => absurd ha (Nat.not_lt_zero a)⟩, fun p hp => absurd hp (Nat.not_lt_zero p), ⟨fun p hp => absurd hp (Nat.not_lt_zero p), fun i hi => absurd hi (Nat.not_lt_zero i)⟩, ⟨rfl, rfl, fun a ha => absurd ha (Nat.not_lt_zero a), fun a ha => absurd ha (Nat.not_lt_zero a), fun a ha => absurd ha (Nat.not_lt_zero a), fun a ha => absurd ha (Nat.not_lt_zero a)⟩, by omega, by omega, by omega, by omega⟩
  · have zm : ∀ f, f ≠ 26 → gI σ 13 f 0 = nI 0 := fun f hf => z 13 f 0 (by decide) (by omega) (by omega)
    exact ⟨⟨zm 1 (by decide), fun p hp => absurd hp (Nat.not_lt_zero p), fun p _ _ => ⟨g.2.2.2.2.1 21 0 p (Or.inl rfl), g.2.2.2.2.1 26 5 p (Or.inr rfl), g.2.2.2.2.1 26 6 p (Or.inr rfl)⟩⟩, fun p hp => absurd hp (Nat.not_lt_zero p), ⟨zm 12 (by decide), zm 13 (by decide), fun i hi => absurd hi (Nat.not_lt_zero i)⟩, ⟨zm 17 (by decide), by omega, fun i hi => absurd hi (Nat.not_lt_zero i)⟩, ⟨zm 29 (by decide), fun h => absurd h (Nat.lt_irrefl 0), fun a ha => absurd ha (Nat.not_lt_zero a)⟩, ⟨zm 49 (by decide), fun a ha => absurd ha (Nat.not_lt_zero a)⟩, ⟨zm 55 (by decide), zm 2 (by decide), fun a ha => absurd ha (Nat.not_lt_zero a)⟩, ⟨⟨zm 48 (by decide), fun i hi => absurd hi (Nat.not_lt_zero i)⟩, zm 67 (by decide), fun i hi => absurd hi (Nat.not_lt_zero i)⟩, g.2.2.2.2.2.2.2⟩
/-- the state at the law's entry -/
def s0 (Ls : Nat) (xs : Nat → Int32) : AS := (fun c => if c = 23 then 1 else if c = 27 then 1 else if c = 30 then 21 else if c = 31 then 1 else if c = 32 then 21 else 0, fun _ _ _ => 0, fun _ _ _ => none, fun c _ => if c = 27 then Ls else 0, fun c _ j => if c = 27 then xs j else 0, fun _ _ _ => none, fun _ _ _ => 0)
theorem s0_gr {Ls : Nat} {xs : Nat → Int32} : Gr (s0 Ls xs) [] [(23, 0, 0)] iC 0 0 := by
  refine ⟨fun t ht => (List.not_mem_nil ht).elim, fun t ht => ?_, ?_, fun c f i _ _ _ => rfl, fun c i j h => ?_, fun i j => rfl, rfl, rfl⟩
  · rw [List.mem_singleton.mp ht]; exact ⟨rfl, Nat.one_pos⟩
  · show ∀ p ∈ iC, (fun c => if c = 23 then 1 else if c = 27 then 1 else if c = 30 then 21 else if c = 31 then 1 else if c = 32 then 21 else 0) p.1 = p.2
    decide
  · show (if c = 27 then xs j else 0) = 0
    rw [if_neg (by omega)]
theorem law_all (hl : l.stackTraces = false) {Ls : Nat} {xs : Nat → Int32} (hLs : Ls ≤ 3072) (hpost : ∀ σ', post (some (xI 1)) σ') : AW G l M_L_law (d + 37) post (s0 Ls xs) 601024 7293034 0 [some (xR (some (27, 0))), none, none, none, none, none, none] [] := by
  refine vc_L_law (d := d + 36) ⟨_, _, rfl, rfl, 60, 9000, _, _, rfl, rfl, ?_⟩
  have g0 := s0_gr (Ls := Ls) (xs := xs)
  rw [show cnt (s0 Ls xs) 12 = 0 from g0.c (by decide)]
  have g1 : Gr (nO (s0 Ls xs) 12) _ _ _ _ _ := g0.nA (n := 0) (c := 12) (m := 0) (by decide) (fun e => absurd e (by decide)) (fun e => absurd e (by decide))
  refine c_cinit (d := d) g1 (fun s1 x1 k1 => ?_)
  dsimp only [retV]
  refine ⟨_, _, rfl, rfl, 60, 30000, _, _, rfl, rfl, ?_⟩
  rw [show cnt s1 13 = 0 from k1.c (by decide)]
  have g2 : Gr (nO s1 13) _ _ _ _ _ := k1.nA (n := 0) (c := 13) (m := 0) (by decide) (fun e => absurd e (by decide)) (fun _ => rfl)
  refine c_minit (d := d) g2 (fun s2 x2 hS k2 => ?_)
  dsimp only [retV]
  refine ⟨_, _, rfl, rfl, ?_⟩
  have c24 : cnt s2 24 = 0 := k2.c (by decide)
  rw [c24]
  have k3 : Gr (nA s2 24 1) cLR ((24, 0, 1) :: eLN) (upC eC 24 0) (-1) (-1) := k2.nA (n := 1) (c := 24) (m := 0) (by decide) (fun e => absurd e (by decide)) (fun e => absurd e (by decide))
  have hS3 : St (nA s2 24 1) := hS.of fun c hc => by
    have e : c ≠ 24 := fun e => by subst e; unfold stKind at hc; omega
    have k : eqK s2 (nA s2 24 1) c := eqK_nA e
    exact ⟨fun f i _ => k.2.2.1 f i, fun i _ => k.2.2.2.1 i, Nat.le_of_eq k.1.symm⟩
  have inv := inv_start hS3 (Gr.to (LR' := cLR) (LN' := eLN) (C' := fC) k3 (by decide) (by decide) (by decide))
  have n27 : gN (nA s2 24 1) 27 0 = Ls := by
    rw [gN_nA, if_neg (by omega), x2.1.2.2.2.1 0]
    show gN (nA s1 13 0) 27 0 = Ls
    rw [gN_nA, if_neg (by omega), x1.1.2.2.2.1 0]
    rfl
  have n24 : gN (nA s2 24 1) 24 0 = 1 := by rw [gN_nA, if_pos ⟨rfl, c24.symm⟩]
  have v0 : vp_in 0 (gN (nA s2 24 1) 24 0) := by rw [n24, ← nI_0]; exact vp_in_nI (by omega) (by omega)
  have z := law_loop (G := G) (d := d) hl hLs hpost (Ls / 6) 0 0 (nA s2 24 1) 600901 7253954 (by omega) (by omega) inv n27 v0 (by omega) (by omega)
  rw [Nat.mul_zero, nI_0] at z
  exact z
end START
