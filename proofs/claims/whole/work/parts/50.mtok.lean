/-! The model's tokens. -/
section MTOK
variable {G : GG} {l : Launch} {d : Nat} {post : Option AVal → AS → Prop} {σ : AS} {kk nn : Nat}
/-- a byte as the model keeps it -/
def sgb (x : Int32) : Int32 := x.toInt8.toInt32
theorem sg_blank : ∀ c, c < 256 → ((sgb (nI c) = 32 ∨ sgb (nI c) = 10) ↔ kd (nI c) = 1) := by decide +kernel
theorem sg_word : ∀ c, c < 256 → ((¬ sgb (nI c) < 97 ∧ ¬ 122 < sgb (nI c)) ↔ kd (nI c) = 2) := by decide +kernel
theorem sg_num : ∀ c, c < 256 → ((¬ sgb (nI c) < 48 ∧ ¬ 57 < sgb (nI c)) ↔ kd (nI c) = 3) := by decide +kernel
theorem sg_same : ∀ c, c < 256 → (kd (nI c) = 2 ∨ kd (nI c) = 3) → sgb (nI c) = nI c := by decide +kernel
theorem kd_range : ∀ c, c < 256 → kd (nI c) = 1 ∨ kd (nI c) = 2 ∨ kd (nI c) = 3 ∨ kd (nI c) = 4 := by decide +kernel
theorem sg_eq : ∀ c, c < 256 → ∀ x, (x = 40 ∨ x = 41 ∨ x = 58 ∨ x = 59 ∨ x = 60 ∨ x = 62) → (sgb (nI c) = nI x ↔ nI c = nI x) := by
  intro c hc x hx
  rcases hx with rfl | rfl | rfl | rfl | rfl | rfl <;> revert c <;> decide +kernel
/-- the model reads the n bytes b -/
def MB (σ : AS) (j n : Nat) (b : Nat → Int32) : Prop := gR σ 13 18 0 = some (22, j) ∧ gI σ 13 19 0 = nI n ∧ n ≤ 1000 ∧ gN σ 22 j = 1000 ∧ (∀ i, i < n → gA σ 22 j i = sgb (b i)) ∧ ∀ i, i < n → ∃ m, m < 256 ∧ b i = nI m
def MN (σ σ' : AS) : Prop := sameK (fun c => c ≠ 13) σ σ' ∧ cnt σ' 13 = cnt σ 13 ∧ (∀ f i, gR σ' 13 f i = gR σ 13 f i) ∧ (∀ i, gN σ' 13 i = gN σ 13 i) ∧ ∀ f i, ¬ (20 ≤ f ∧ f ≤ 23) → gI σ' 13 f i = gI σ 13 f i
theorem MN.rf : MN σ σ := ⟨sameK.rf, rfl, fun _ _ => rfl, fun _ => rfl, fun _ _ _ => rfl⟩
theorem MN.tr {σ1 σ2 : AS} (h : MN σ σ1) (k : MN σ1 σ2) : MN σ σ2 := ⟨h.1.tr k.1, k.2.1.trans h.2.1, fun f i => (k.2.2.1 f i).trans (h.2.2.1 f i), fun i => (k.2.2.2.1 i).trans (h.2.2.2.1 i), fun f i z => (k.2.2.2.2 f i z).trans (h.2.2.2.2 f i z)⟩
theorem MN.set {f : Nat} {v : Int32} (h1 : 20 ≤ f) (h2 : f ≤ 23) : MN σ (sI σ 13 f 0 v) := ⟨fun c hc => eqK_sI hc, rfl, fun _ _ => rfl, fun _ => rfl, fun g i z => gI_o (fun e => z (by omega))⟩
theorem MN.mb {σ' : AS} {j n : Nat} {b : Nat → Int32} (h : MN σ σ') (k : MB σ j n b) : MB σ' j n b := ⟨(h.2.2.1 18 0).trans k.1, (h.2.2.2.2 19 0 (by omega)).trans k.2.1, k.2.2.1, ((h.1 22 (by decide)).2.2.2.1 j).trans k.2.2.2.1, fun i hi => ((h.1 22 (by decide)).2.2.2.2.1 j i).trans (k.2.2.2.2.1 i hi), k.2.2.2.2.2⟩
theorem MN.st {σ' : AS} (h : MN σ σ') (hS : St σ) : St σ' := hS.of fun c _ => by
  by_cases e : c = 13
  · subst e; exact ⟨fun f i _ => h.2.2.1 f i, fun i _ => h.2.2.2.1 i, Nat.le_of_eq h.2.1.symm⟩
  · have k := h.1 c e
    exact ⟨fun f i _ => k.2.2.1 f i, fun i _ => k.2.2.2.1 i, Nat.le_of_eq k.1.symm⟩
/-- the sort of the token at i -/
def mS (n : Nat) (b : Nat → Int32) (i : Nat) : Int32 := if tK n b i = 0 then 0 else if tK n b i = 2 then 3 else if tK n b i = 3 then (if tE n b i - tS n b i ≤ 5 then 2 else 1) else if rAt n b (tS n b i) = 40 ∨ rAt n b (tS n b i) = 41 ∨ rAt n b (tS n b i) = 58 ∨ rAt n b (tS n b i) = 59 ∨ rAt n b (tS n b i) = 60 ∨ rAt n b (tS n b i) = 62 then 4 else 1
def MTok (σ : AS) (n : Nat) (b : Nat → Int32) (i : Nat) : Prop := gI σ 13 21 0 = nI (tS n b i) ∧ gI σ 13 20 0 = nI (tE n b i) ∧ gI σ 13 22 0 = mS n b i ∧ (isN n b i → gI σ 13 23 0 = tV n b i) ∧ (mS n b i = 4 → gI σ 13 23 0 = rAt n b (tS n b i))
theorem m_see {j n i : Nat} {b : Nat → Int32} (hB : MB σ j n b) (hi : i < 2 ^ 31) (h : post (some (xI (if i < n then sgb (b i) else 0))) σ) : AMet G l M_X12_see d 0 0 [xR (some (13, 0)), xI (nI i)] σ post := by
  obtain ⟨h1, h2, h3, h4, h5, h6⟩ := hB
  refine AMet.of rfl (Nat.le_of_ble_eq_true rfl) (vc_X12_see ⟨fun c => ?_, fun c => ⟨j, h1, ?_, ?_⟩⟩)
  · rw [h2] at c
    rw [if_neg (by have := (nI_leI (by omega) hi).mp c; omega)] at h
    exact h
  · rw [h2] at c
    have : ¬ n ≤ i := fun q => c (nI_le q hi)
    rw [h4]; exact vp_in_nI (by omega) (by decide)
  · rw [h2] at c
    have : ¬ n ≤ i := fun q => c (nI_le q hi)
    rw [nI_clamp hi, h5 i (by omega)]
    rw [if_pos (by omega)] at h
    exact h
theorem m_isSmall {x : Int32} (h0 : ¬ (¬ x < 97 ∧ ¬ 122 < x) → post (some (xI 0)) σ) (h1 : (¬ x < 97 ∧ ¬ 122 < x) → post (some (xI 1)) σ) : AMet G l M_X12_isSmall d 0 0 [xI x] σ post :=
  AMet.of rfl (Nat.le_of_ble_eq_true rfl) (vc_X12_isSmall ⟨fun c => h0 (fun z => z.1 c), fun c => ⟨fun c2 => h0 (fun z => z.2 c2), fun c2 => h1 ⟨c, c2⟩⟩⟩)
theorem m_isDigit {x : Int32} (h0 : ¬ (¬ x < 48 ∧ ¬ 57 < x) → post (some (xI 0)) σ) (h1 : (¬ x < 48 ∧ ¬ 57 < x) → post (some (xI 1)) σ) : AMet G l M_X12_isDigit d 0 0 [xI x] σ post :=
  AMet.of rfl (Nat.le_of_ble_eq_true rfl) (vc_X12_isDigit ⟨fun c => h0 (fun z => z.1 c), fun c => ⟨fun c2 => h0 (fun z => z.2 c2), fun c2 => h1 ⟨c, c2⟩⟩⟩)
/-- the kind of a byte, by what the model keeps -/
theorem tk_lt {n i : Nat} {b : Nat → Int32} (h : i < n) : tk n b i = kd (b i) := by unfold tk rAt; rw [if_pos h]
theorem tk_ge {n i : Nat} {b : Nat → Int32} (h : ¬ i < n) : tk n b i = 0 := by unfold tk rAt; rw [if_neg h]; rfl
theorem m_words {s : Nat} {j n : Nat} {b : Nat → Int32} : ∀ (f p : Nat) (σ1 : AS), MB σ1 j n b → n - p = f → p ≤ n → gI σ1 13 20 0 = nI p →
    (∀ σ', MN σ1 σ' → gI σ' 13 20 0 = nI (rnn n b 2 f p) → gI σ' 13 21 0 = gI σ1 13 21 0 → gI σ' 13 22 0 = 3 → post none σ') → AW G l M_X12_next (d + 1) post σ1 kk nn 104 [some (xR (some (13, 0))), none] [] := by
  intro f
  induction f with
  | zero =>
    intro p σ1 B hf hp e h
    have hn := B.2.2.1
    refine vc_X12_next_104 (d := d) ?_
    rw [e]
    refine m_see B (by omega) (m_isSmall (fun _ => ⟨fun _ => h _ (MN.set (by decide) (by decide)) (by rw [gI_o (by decide)]; exact e) (by rw [gI_o (by decide)]) gI_self, fun z => absurd rfl z⟩) (fun z => ?_))
    rw [if_neg (by omega)] at z
    exact absurd z (by decide)
  | succ f ih =>
    intro p σ1 B hf hp e h
    have hn := B.2.2.1
    have hlt : p < n := by omega
    obtain ⟨m, hm, em⟩ := B.2.2.2.2.2 p hlt
    refine vc_X12_next_104 (d := d) ?_
    rw [e]
    refine m_see B (by omega) ?_
    rw [if_pos hlt, em]
    have k := sg_word m hm
    refine m_isSmall (fun z => ⟨fun _ => h _ (MN.set (by decide) (by decide)) ?_ (by rw [gI_o (by decide)]) gI_self, fun z => absurd rfl z⟩) (fun z => ⟨fun c => absurd c (by decide), fun _ => ?_⟩)
    · rw [gI_o (by decide), e, rnn, if_neg (fun q => z (k.mpr (by have := q.2; rw [tk_lt hlt, em] at this; exact this)))]
    · rw [e, nI_1]
      refine ih (p + 1) _ ((MN.set (by decide) (by decide)).mb B) (by omega) (by omega) gI_self (fun σ' M e1 e2 e3 => h σ' ((MN.set (by decide) (by decide)).tr M) ?_ (by rw [e2, gI_o (by decide)]) e3)
      rw [rnn, if_pos ⟨by decide, by rw [tk_lt hlt, em]; exact k.mp z⟩]
      exact e1
theorem m_nums {s : Nat} {j n : Nat} {b : Nat → Int32} : ∀ (f p : Nat) (v : Int32) (σ1 : AS), MB σ1 j n b → n - p = f → p ≤ n → s ≤ p → gI σ1 13 21 0 = nI s → gI σ1 13 20 0 = nI p → (p - s ≤ 5 → gI σ1 13 23 0 = v) →
    (∀ σ', MN σ1 σ' → gI σ' 13 20 0 = nI (rnn n b 3 f p) → gI σ' 13 21 0 = nI s → gI σ' 13 22 0 = (if rnn n b 3 f p - s ≤ 5 then 2 else 1) → (rnn n b 3 f p - s ≤ 5 → gI σ' 13 23 0 = dig n b 3 f p v) → post none σ') → AW G l M_X12_next (d + 1) post σ1 kk nn 154 [some (xR (some (13, 0))), none] [] := by
  intro f
  induction f with
  | zero =>
    intro p v σ1 B hf hp hs e1 e e3 h
    have hn := B.2.2.1
    refine vc_X12_next_154 (d := d) ?_
    rw [e]
    refine m_see B (by omega) (m_isDigit (fun _ => ⟨fun _ => ?_, fun z => absurd rfl z⟩) (fun z => ?_))
    · rw [e, e1, nI_subl hs (by omega)]
      refine ⟨fun c => h _ (MN.set (by decide) (by decide)) (by rw [gI_o (by decide)]; exact e) (by rw [gI_o (by decide)]; exact e1) ?_ (fun q => by rw [gI_o (by decide)]; exact e3 q), fun c => h _ (MN.set (by decide) (by decide)) (by rw [gI_o (by decide)]; exact e) (by rw [gI_o (by decide)]; exact e1) ?_ (fun q => by rw [gI_o (by decide)]; exact e3 q)⟩
      · have := (nI_leI (b := 5) (by omega) (by decide)).mp c
        rw [gI_self]; show 2 = if p - s ≤ 5 then 2 else 1
        rw [if_pos this]
      · have : ¬ p - s ≤ 5 := fun q => c (nI_le q (by decide))
        rw [gI_self]; show 1 = if p - s ≤ 5 then 2 else 1
        rw [if_neg this]
    · rw [if_neg (by omega)] at z
      exact absurd z (by decide)
  | succ f ih =>
    intro p v σ1 B hf hp hs e1 e e3 h
    have hn := B.2.2.1
    have hlt : p < n := by omega
    obtain ⟨m, hm, em⟩ := B.2.2.2.2.2 p hlt
    refine vc_X12_next_154 (d := d) ?_
    rw [e]
    refine m_see B (by omega) ?_
    rw [if_pos hlt, em]
    have k := sg_num m hm
    refine m_isDigit (fun z => ⟨fun _ => ?_, fun z => absurd rfl z⟩) (fun z => ⟨fun c => absurd c (by decide), fun _ => ?_⟩)
    · have r : rnn n b 3 (f + 1) p = p := by rw [rnn, if_neg (fun q => z (k.mpr (by have := q.2; rw [tk_lt hlt, em] at this; exact this)))]
      have g : dig n b 3 (f + 1) p v = v := by rw [dig, if_neg (fun q => z (k.mpr (by have := q.2; rw [tk_lt hlt, em] at this; exact this)))]
      rw [r, g] at h
      rw [e, e1, nI_subl hs (by omega)]
      refine ⟨fun c => h _ (MN.set (by decide) (by decide)) (by rw [gI_o (by decide)]; exact e) (by rw [gI_o (by decide)]; exact e1) ?_ (fun q => by rw [gI_o (by decide)]; exact e3 q), fun c => h _ (MN.set (by decide) (by decide)) (by rw [gI_o (by decide)]; exact e) (by rw [gI_o (by decide)]; exact e1) ?_ (fun q => by rw [gI_o (by decide)]; exact e3 q)⟩
      · have := (nI_leI (b := 5) (by omega) (by decide)).mp c
        rw [gI_self, if_pos this]
      · have : ¬ p - s ≤ 5 := fun q => c (nI_le q (by decide))
        rw [gI_self, if_neg this]
    · have hk := k.mp z
      have r : rnn n b 3 (f + 1) p = rnn n b 3 f (p + 1) := by rw [rnn, if_pos ⟨by decide, by rw [tk_lt hlt, em]; exact hk⟩]
      have g : dig n b 3 (f + 1) p v = dig n b 3 f (p + 1) (v * 10 + nI m - 48) := by
        rw [dig, if_pos ⟨by decide, by rw [tk_lt hlt, em]; exact hk⟩]
        unfold rAt
        rw [if_pos hlt, em]
      rw [r, g] at h
      have sm := sg_same m hm (Or.inr hk)
      rw [e, e1, nI_subl hs (by omega), nI_1]
      refine ⟨fun c => ?_, fun c => m_see B (by omega) ?_⟩
      · have c5 := (nI_leI (a := 5) (by decide) (by omega)).mp c
        refine ih (p + 1) _ _ ((MN.set (by decide) (by decide)).mb B) (by omega) (by omega) (by omega) (by rw [gI_o (by decide)]; exact e1) gI_self (fun q => absurd q (by omega)) (fun σ' M x1 x2 x3 x4 => h σ' ((MN.set (by decide) (by decide)).tr M) x1 x2 x3 x4)
      · have c5 : ¬ 5 ≤ p - s := fun q => c (nI_le q (by omega))
        rw [if_pos hlt, em, sm]
        dsimp only [retI]
        rw [e, nI_1]
        have F : MN σ1 (sI (sI σ1 13 23 0 (10 * gI σ1 13 23 0 + nI m - 48)) 13 20 0 (nI (p + 1))) := (MN.set (by decide) (by decide)).tr (MN.set (by decide) (by decide))
        refine ih (p + 1) _ _ (F.mb B) (by omega) (by omega) (by omega) (by rw [gI_o (by decide), gI_o (by decide)]; exact e1) gI_self (fun _ => ?_) (fun σ' M x1 x2 x3 x4 => h σ' (F.tr M) x1 x2 x3 x4)
        rw [gI_o (by decide), gI_self, e3 (by omega), Int32.mul_comm]
end MTOK
