/-! Facts, and what the day leaves behind. -/
section SEND
variable {G : GG} {l : Launch} {d : Nat} {post : Option AVal → AS → Prop} {σ : AS} {kk nn : Nat}
/-- a day's end changes so much -/
def NF (σ σ' : AS) : Prop := sameK (fun c => c ≠ 0 ∧ c ≠ 6 ∧ c ≠ 8 ∧ c ≠ 11 ∧ c ≠ 20 ∧ c ≠ 23) σ σ' ∧ (∀ c, c = 6 ∨ c = 8 ∨ c = 11 ∨ c = 20 → cnt σ' c = cnt σ c ∧ (∀ i, gN σ' c i = gN σ c i) ∧ (c ≠ 11 → ∀ f i, gR σ' c f i = gR σ c f i)) ∧ (∀ f i, f ≠ 8 → gR σ' 11 f i = gR σ 11 f i) ∧ (∀ f i, f ≠ 7 → f ≠ 8 → f ≠ 9 → gI σ' 6 f i = gI σ 6 f i) ∧ (∀ r, r ≠ 2 → r ≠ 3 → gI σ' 8 1 r = gI σ 8 1 r) ∧ (∀ a j, a ≠ 2 → a ≠ 3 → gA σ' 20 a j = gA σ 20 a j) ∧ (∀ f i, f ≠ 6 → f ≠ 7 → gI σ' 11 f i = gI σ 11 f i) ∧ LQ (fun q => q ≠ 5) σ σ'
theorem NF.rf : NF σ σ := ⟨sameK.rf, fun _ _ => ⟨rfl, fun _ => rfl, fun _ _ _ => rfl⟩, fun _ _ _ => rfl, fun _ _ _ _ _ => rfl, fun _ _ _ => rfl, fun _ _ _ _ => rfl, fun _ _ _ _ => rfl, LQ.same sameK.rf⟩
theorem NF.tr {σ1 σ2 : AS} (h : NF σ σ1) (k : NF σ1 σ2) : NF σ σ2 := ⟨h.1.tr k.1, fun c hc => ⟨(k.2.1 c hc).1.trans (h.2.1 c hc).1, fun i => ((k.2.1 c hc).2.1 i).trans ((h.2.1 c hc).2.1 i), fun z f i => ((k.2.1 c hc).2.2 z f i).trans ((h.2.1 c hc).2.2 z f i)⟩, fun f i z => (k.2.2.1 f i z).trans (h.2.2.1 f i z), fun f i z z2 z3 => (k.2.2.2.1 f i z z2 z3).trans (h.2.2.2.1 f i z z2 z3), fun r z z2 => (k.2.2.2.2.1 r z z2).trans (h.2.2.2.2.1 r z z2), fun a j z z2 => (k.2.2.2.2.2.1 a j z z2).trans (h.2.2.2.2.2.1 a j z z2), fun f i z z2 => (k.2.2.2.2.2.2.1 f i z z2).trans (h.2.2.2.2.2.2.1 f i z z2), h.2.2.2.2.2.2.2.tr k.2.2.2.2.2.2.2⟩
theorem NF.st {σ' : AS} (h : NF σ σ') (hS : St σ) : St σ' := hS.of fun c hc => by
  by_cases h1 : c = 8 ∨ c = 20
  · have k := h.2.1 c (by rcases h1 with rfl | rfl <;> decide)
    exact ⟨fun f i _ => k.2.2 (by rcases h1 with rfl | rfl <;> decide) f i, fun i _ => k.2.1 i, Nat.le_of_eq k.1.symm⟩
  · have k := h.1 c (by
      refine ⟨?_, ?_, fun e => h1 (Or.inl e), ?_, fun e => h1 (Or.inr e), ?_⟩ <;> (intro e; subst e; revert hc; unfold stKind; decide))
    exact ⟨fun f i _ => k.2.2.1 f i, fun i _ => k.2.2.2.1 i, Nat.le_of_eq k.1.symm⟩
theorem NF.radd {σ' : AS} {r n : Nat} {v : Int32} (h : RAdd σ σ' r n v) (hr : r = 2 ∨ r = 3) : NF σ σ' := ⟨h.1.sub (fun c hc => ⟨hc.2.2.1, hc.2.2.2.2.1⟩), fun c _ => ⟨h.2.1 c, fun i => h.2.2.2.1 c i, fun _ f i => h.2.2.1 c f i⟩, fun f i _ => h.2.2.1 11 f i, fun f i _ _ _ => (h.1 6 (by decide)).2.1 f i, fun r' z z2 => h.2.2.2.2.2.1 r' (by rcases hr with rfl | rfl <;> assumption), fun a j z z2 => by
  rw [h.2.2.2.2.2.2, if_neg (fun e => by rcases hr with rfl | rfl; exact z e.1; exact z2 e.1)], fun f i _ _ => (h.1 11 (by decide)).2.1 f i, LQ.same (h.1.sub (fun c hc => by rcases hc with rfl | rfl <;> decide))⟩
theorem NF.set6 {f i : Nat} {v : Int32} (hf : f = 7 ∨ f = 8 ∨ f = 9) : NF σ (sI σ 6 f i v) := ⟨fun c hc => eqK_sI hc.2.1, fun _ _ => ⟨rfl, fun _ => rfl, fun _ _ _ => rfl⟩, fun _ _ _ => rfl, fun g j z z2 z3 => gI_o (fun e => by have := e.2.1; omega), fun r _ _ => gI_o (fun e => absurd e.1 (by decide)), fun _ _ _ _ => rfl, fun g j _ _ => gI_o (fun e => absurd e.1 (by decide)), LQ.same (fun c hc => eqK_sI (by rcases hc with rfl | rfl <;> decide))⟩
theorem NF.set11 {f i : Nat} {v : Int32} (hf : f = 6 ∨ f = 7) : NF σ (sI σ 11 f i v) := ⟨fun c hc => eqK_sI hc.2.2.2.1, fun _ _ => ⟨rfl, fun _ => rfl, fun _ _ _ => rfl⟩, fun _ _ _ => rfl, fun g j _ _ _ => gI_o (fun e => absurd e.1 (by decide)), fun r _ _ => gI_o (fun e => absurd e.1 (by decide)), fun _ _ _ _ => rfl, fun g j z z2 => gI_o (fun e => by have := e.2.1; omega), LQ.same (fun c hc => eqK_sI (by rcases hc with rfl | rfl <;> decide))⟩
theorem NF.setA {i : Nat} {v : Option Nm} : NF σ (sR σ 11 8 i v) := ⟨fun c hc => eqK_sR hc.2.2.2.1, fun c _ => ⟨rfl, fun _ => rfl, fun z f i => by rw [gR_sR, if_neg (fun e => z e.1)]⟩, fun f j z => by rw [gR_sR, if_neg (fun e => z e.2.1)], fun _ _ _ _ _ => rfl, fun _ _ _ => rfl, fun _ _ _ _ => rfl, fun _ _ _ _ => rfl, LQ.same (fun c hc => eqK_sR (by rcases hc with rfl | rfl <;> decide))⟩
theorem NF.ladd {σ' : AS} (h : LAdd σ σ' 5) : NF σ σ' := ⟨h.1.sub (fun c hc => ⟨hc.1, hc.2.2.2.2.2⟩), fun c hc => by
  have k := h.1 c (by rcases hc with rfl | rfl | rfl | rfl <;> decide)
  exact ⟨k.1, k.2.2.2.1, fun _ => k.2.2.1⟩, fun f i _ => (h.1 11 (by decide)).2.2.1 f i, fun f i _ _ _ => (h.1 6 (by decide)).2.1 f i, fun r _ _ => (h.1 8 (by decide)).2.1 1 r, fun a j _ _ => (h.1 20 (by decide)).2.2.2.2.1 a j, fun f i _ _ => (h.1 11 (by decide)).2.1 f i, LQ.add h (fun z => z rfl)⟩
/-- a fact is told -/
theorem c_factAdd {p n : Nat} {P S : Nat → Int32} {sc : Int32} (hS : St σ) (hR2 : RW σ 2 n P) (hR3 : RW σ 3 n S) (hn : n < 2600) (h : ∀ σ', NF σ σ' → sameK (fun c => c ≠ 6 ∧ c ≠ 8 ∧ c ≠ 20) σ σ' → (∀ f i, ¬ (f = 9 ∧ i = p) → gI σ' 6 f i = gI σ 6 f i) → gI σ' 6 9 p = gI σ 6 9 p ||| (1 <<< (sc &&& 31)) → RW σ' 2 (n + 1) (snoc P n (gI σ 6 0 p)) → RW σ' 3 (n + 1) (snoc S n sc) → post (some (xI (nI n))) σ') : AMet G l M_X4_add (d + 1) 0 0 [xR (some (5, 0)), xR (some (6, p)), xI sc] σ post := by
  refine AMet.of rfl (Nat.le_of_ble_eq_true rfl) (vc_X4_add (d := d) hS (c_radd hS (by decide) hR2 hn (fun σ1 A1 => ⟨A1.st hS, ?_⟩)))
  have R31 := A1.other hS (by decide) (by decide) (by decide) hR3
  have R21 := A1.self hS (by decide) hn hR2
  refine c_radd (A1.st hS) (by decide) R31 hn (fun σ2 A2 => ⟨A2.st (A1.st hS), ?_⟩)
  have R22 := A2.other (A1.st hS) (by decide) (by decide) (by decide) R21
  have R32 := A2.self (A1.st hS) (by decide) hn R31
  have g6 : ∀ f i, gI σ2 6 f i = gI σ 6 f i := fun f i => ((A2.1 6 (by decide)).2.1 f i).trans ((A1.1 6 (by decide)).2.1 f i)
  rw [R22.size, nI_pred]
  have K6 : sameK (fun c => c ≠ 6) σ2 (sI σ2 6 9 p (gI σ2 6 9 p ||| (1 <<< (sc &&& 31)))) := fun c hc => eqK_sI hc
  refine h _ (((NF.radd A1 (Or.inl rfl)).tr (NF.radd A2 (Or.inr rfl))).tr (NF.set6 (Or.inr (Or.inr rfl)))) (fun c hc => ((A1.1 c hc.2).tr (A2.1 c hc.2)).tr (K6 c hc.1)) (fun f i z => ?_) ?_ (R22.same K6 (by decide) (by decide)) (R32.same K6 (by decide) (by decide))
  · rw [gI_o (fun e => z e.2)]; exact g6 f i
  · rw [gI_self, g6]
theorem c_howOften {n k : Nat} {P S : Nat → Int32} {p sc : Int32} {g : Nat → Nat} (hS : St σ) (hR2 : RW σ 2 n P) (hR3 : RW σ 3 n S) (hk : k ≤ n) (hg0 : g 0 = 0) (hg : ∀ i, g (i + 1) = g i + (if P i = p ∧ S i = sc then 1 else 0)) (h : post (some (xI (nI (g k)))) σ) : AMet G l M_X4_howOften (d + 1) 0 0 [xR (some (5, 0)), xI p, xI sc, xI (nI k)] σ post := by
  have hn := hR2.lt
  have loop : ∀ (f i : Nat), k - i = f → i ≤ k → AW G l M_X4_howOften (d + 1) post σ 0 0 6 [some (xR (some (5, 0))), some (xI p), some (xI sc), some (xI (nI k)), some (xI (nI (g i))), some (xI (nI i))] [] := by
    intro f
    induction f with
    | zero =>
      intro i hf hi
      have e : i = k := by omega
      subst e
      exact vc_X4_howOften_6 (d := d) hS ⟨fun _ => h, fun c => absurd (nI_le (Nat.le_refl i) (by omega)) c⟩
    | succ f ih =>
      intro i hf hi
      have step : ∀ b, (b = if P i = p ∧ S i = sc then 1 else 0) → AW G l M_X4_howOften (d + 1) post σ 0 0 6 [some (xR (some (5, 0))), some (xI p), some (xI sc), some (xI (nI k)), some (xI (nI (g i + b))), some (xI (nI (i + 1)))] [] := fun b hb => by
        have k := ih (i + 1) (by omega) (by omega)
        rw [hg i, ← hb] at k
        exact k
      refine vc_X4_howOften_6 (d := d) hS ⟨fun c => absurd ((nI_leI (by omega) (by omega)).mp c) (by omega), fun _ => ⟨fun c => ?_, fun _ => c_at hR2 (by omega) ⟨hS, fun c => ?_, fun c => c_at hR3 (by omega) ⟨fun c2 => ?_, fun c2 => ?_⟩⟩⟩⟩
      · rw [hR2.size] at c
        exact absurd ((nI_leI (by omega) (by omega)).mp c) (by omega)
      · rw [rAt, if_pos (by omega)] at c
        rw [nI_1]
        exact step 0 (by rw [if_neg (fun z => c z.1)])
      · rw [rAt, if_pos (by omega)] at c2
        rw [nI_1]
        exact step 0 (by rw [if_neg (fun z => c2 z.2)])
      · rw [rAt, if_pos (by omega)] at c c2
        rw [nI_1, nI_1]
        exact step 1 (by rw [if_pos ⟨c, c2⟩])
  refine AMet.of rfl (Nat.le_of_ble_eq_true rfl) (vc_X4_howOften (d := d) ?_)
  have k := loop k 0 rfl (Nat.zero_le _)
  rw [hg0, nI_0] at k
  exact k
/-- when the last one was sent -/
def lastS (s : Nat → Int32) : Nat → Int32
  | 0 => -1
  | k + 1 => mx (lastS s k) (s k)
def catN (b : Nat → Int32) (n : Nat) (f : Nat → Int32) : Nat → Int32 := fun i => if i < n then b i else f (i - n)
/-- amid the sending: k are sent -/
def MidS (σ σ' : AS) (t0 k R n : Nat) (e tp ak : Nat → Nat) (a0 : Nat) (P S : Nat → Int32) (day : Int32) (ag : Option Nm) : Prop := NF σ σ' ∧ (∀ i, (∀ j, j < k → i ≠ tp j) → ∀ f, gI σ' 6 f i = gI σ 6 f i) ∧ (∀ i, (i < t0 ∨ t0 + k ≤ i) → (∀ f, gI σ' 11 f i = gI σ 11 f i) ∧ ∀ f, gR σ' 11 f i = gR σ 11 f i) ∧
  (∀ j, j < k → gI σ' 11 6 (t0 + j) = gI σ 2 7 (a0 + ak j) ∧ gI σ' 11 7 (t0 + j) = gI σ 2 7 (a0 + ak j) + gI σ 2 3 (a0 + ak j) ∧ gR σ' 11 8 (t0 + j) = ag ∧ gI σ' 6 7 (tp j) = gI σ 6 7 (tp j) + 1 ∧ gI σ' 6 8 (tp j) = 1440 * day + (gI σ 2 7 (a0 + ak j) + gI σ 2 3 (a0 + ak j)) + 660 ∧ gI σ' 6 9 (tp j) = gI σ 6 9 (tp j) ||| (1 <<< (gI σ 11 3 (t0 + j) &&& 31))) ∧
  RW σ' 2 (n + k) (catN P n (fun j => gI σ 6 0 (tp j))) ∧ RW σ' 3 (n + k) (catN S n (fun j => gI σ 11 3 (t0 + j))) ∧ AL σ' 5 (R + k) (fun i => (11, if i < R then e i else t0 + (i - R)))
end SEND
