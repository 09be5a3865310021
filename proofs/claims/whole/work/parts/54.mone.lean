/-! The model reads and evaluates what is wanted: one, all, either. -/
section MONE
variable {G : GG} {l : Launch} {d : Nat} {post : Option AVal → AS → Prop} {σ : AS} {kk nn : Nat}
theorem rmN_le {n i : Nat} {b : Nat → Int32} {k : Int32} (hi : i ≤ n) (h : (rmN n b i k).1.1 = 0) : (rmN n b i k).1.2 ≤ n := by
  have hle := tE_le (b := b) hi
  unfold rmN at h ⊢
  by_cases c1 : k = 0
  · rw [if_pos c1]; exact hi
  · rw [if_neg c1] at h ⊢
    by_cases c2 : tK n b i = 3 ∧ tE n b i - tS n b i ≤ 5
    · rw [if_pos c2] at h ⊢
      by_cases c3 : tV n b i < 0 ∨ hiOf k < tV n b i
      · rw [if_pos c3] at h; exact absurd h i2n0
      · rw [if_neg c3]; exact hle.2
    · rw [if_neg c2] at h; exact absurd h i1n0
theorem rm_le {n i : Nat} {b : Nat → Int32} (hi : i ≤ n) (h : (rm n b i).1.1 = 0) : (rm n b i).1.2 ≤ n := by
  have hle := tE_le (b := b) hi
  have hle2 := tE_le (b := b) hle.2
  unfold rm at h ⊢
  by_cases c0 : mkH n b i = -1
  · rw [if_pos c0] at h; exact absurd h i1n0
  · rw [if_neg c0] at h ⊢
    by_cases c1 : mkH n b i = 4 ∨ mkH n b i = 6
    · rw [if_pos c1] at h ⊢
      by_cases c2 : isG n b (tE n b i) 60 = true
      · rw [if_pos c2] at h ⊢
        exact rmN_le hle2.2 h
      · rw [if_neg c2] at h ⊢
        by_cases c3 : isG n b (tE n b i) 62 = true
        · rw [if_pos c3] at h ⊢
          exact rmN_le hle2.2 h
        · rw [if_neg c3] at h; exact absurd h i1n0
    · rw [if_neg c1] at h ⊢
      exact rmN_le hle.2 h
theorem rd_ok (n : Nat) (b : Nat → Int32) : ∀ f, (∀ dep i x y, i ≤ n → (rd n b f true dep i x y).1.1 = 0 → i < (rd n b f true dep i x y).1.2 ∧ (rd n b f true dep i x y).1.2 ≤ n) ∧ (∀ dep i o a, i ≤ n → (rd n b f false dep i o a).1.1 = 0 → i < (rd n b f false dep i o a).1.2 ∧ (rd n b f false dep i o a).1.2 ≤ n) := by
  intro f
  induction f with
  | zero => exact ⟨fun dep i x y h z => absurd z i1n0, fun dep i x y h z => absurd z i1n0⟩
  | succ f ih =>
    refine ⟨fun dep i x y hi z => ?_, fun dep i o a hi z => ?_⟩
    · have hle := tE_le (b := b) hi
      have hs := tS_le (b := b) hi
      by_cases hw : isW n b i 4 = true
      · by_cases h8 : dep < 8
        · by_cases e0 : (rd n b f true (dep + 1) (tE n b i) false false).1.1 = 0
          · rw [rd, if_pos hw, if_pos h8, if_pos e0]
            have := ih.1 (dep + 1) _ false false hle.2 e0
            exact ⟨by dsimp only; omega, this.2⟩
          · rw [rd, if_pos hw, if_pos h8, if_neg e0] at z; exact absurd z e0
        · rw [rd, if_pos hw, if_neg h8] at z; exact absurd z i2n0
      · by_cases hg : isG n b i 40 = true
        · by_cases h8 : dep < 8
          · by_cases e0 : (rd n b f false (dep + 1) (tE n b i) false false).1.1 = 0
            · by_cases g : isG n b (rd n b f false (dep + 1) (tE n b i) false false).1.2 41 = true
              · rw [rd, if_neg hw, if_pos hg, if_pos h8, if_pos e0, if_pos g]
                have := ih.2 (dep + 1) _ false false hle.2 e0
                have h2 := tE_le (b := b) this.2
                have h3 := tS_le (b := b) this.2
                exact ⟨by dsimp only; omega, h2.2⟩
              · rw [rd, if_neg hw, if_pos hg, if_pos h8, if_pos e0, if_neg g] at z; exact absurd z i1n0
            · rw [rd, if_neg hw, if_pos hg, if_pos h8, if_neg e0] at z; exact absurd z e0
          · rw [rd, if_neg hw, if_pos hg, if_neg h8] at z; exact absurd z i2n0
        · by_cases e0 : (rm n b i).1.1 = 0
          · rw [rd, if_neg hw, if_neg hg, if_pos e0]
            exact ⟨rm_gt hi e0, rm_le hi e0⟩
          · rw [rd, if_neg hw, if_neg hg, if_neg e0] at z; exact absurd z e0
    · by_cases e0 : (rd n b f true dep i false false).1.1 = 0
      · have k1 := ih.1 dep i false false hi e0
        have h2 := tE_le (b := b) k1.2
        have h3 := tS_le (b := b) k1.2
        by_cases w1 : isW n b (rd n b f true dep i false false).1.2 11 = true
        · rw [rd, if_pos e0, if_pos w1] at z ⊢
          have := ih.2 dep _ o true h2.2 z
          exact ⟨by dsimp only; omega, this.2⟩
        · by_cases w2 : isW n b (rd n b f true dep i false false).1.2 12 = true
          · rw [rd, if_pos e0, if_neg w1, if_pos w2] at z ⊢
            have := ih.2 dep _ true false h2.2 z
            exact ⟨by dsimp only; omega, this.2⟩
          · rw [rd, if_pos e0, if_neg w1, if_neg w2]
            exact k1
      · rw [rd, if_neg e0] at z; exact absurd z e0
def M0 : AVal := xR (some (13, 0))
def MOne (G : GG) (l : Launch) (n : Nat) (b : Nat → Int32) (j : Nat) (rdg : Bool) (g : Nat → Int32) (f : Nat) : Prop := ∀ (dep i : Nat) (σ : AS) (D : Nat) (post : Option AVal → AS → Prop), dep ≤ 8 → 2 * (n - i) + 1 ≤ f → i ≤ n → St σ → MB σ j n b → MTok σ n b i → gI σ 13 24 0 = 0 → EvF σ rdg g → 29 ≤ D + 3 * dep → (∀ σ' V, MA rdg g σ σ' n b (rd n b f true dep i false false) V → post (some (xI (bI V))) σ') → AMet G l M_X12_one D 0 0 [xR (some (13, 0)), xI (nI dep)] σ post
def MAny (G : GG) (l : Launch) (n : Nat) (b : Nat → Int32) (j : Nat) (rdg : Bool) (g : Nat → Int32) (f : Nat) : Prop := ∀ (dep i : Nat) (σ : AS) (D : Nat) (post : Option AVal → AS → Prop), dep ≤ 8 → 2 * (n - i) + 2 ≤ f → i ≤ n → St σ → MB σ j n b → MTok σ n b i → gI σ 13 24 0 = 0 → EvF σ rdg g → 31 ≤ D + 3 * dep → (∀ σ' V, MA rdg g σ σ' n b (rd n b f false dep i false false) V → post (some (xI (bI V))) σ') → AMet G l M_X12_either D 0 0 [xR (some (13, 0)), xI (nI dep)] σ post
/-- the number behind a mark of kind k, at token i2 -/
def oMk (n : Nat) (b : Nat → Int32) (i2 : Nat) (k : Int32) : RR := if (rmN n b i2 k).1.1 = 0 then ((rmN n b i2 k).1, [(rmN n b i2 k).2]) else ((rmN n b i2 k).1, [])
theorem m_markNum {rdg : Bool} {g : Nat → Int32} {σ1 : AS} {j n i2 k : Nat} {b : Nat → Int32} {hi : Int32} (hk : k ≤ 7) (k0 : k ≠ 0) (hh : hiOf (nI k) = hi) (F : MX σ σ1) (hS : St σ1) (hB' : MB σ1 j n b) (hin : i2 ≤ n) (hT : MTok σ1 n b i2) (h0 : gI σ1 13 24 0 = 0) (hE : EvF σ1 rdg g)
    (h : ∀ v σ2, St σ2 → EvF σ2 rdg g → (∀ V, (rdg = false → ∀ m, m ≤ 99999 → v = nI m → nI m ≤ hi → V = hB g (nI k) v) → MA rdg g σ σ2 n b (oMk n b i2 (nI k)) V) → post (some (xI v)) σ2) : AMet G l M_X12_number (d + 2) 0 0 [xR (some (13, 0)), xI 0, xI hi] σ1 post := by
  subst hh
  obtain ⟨e1, e2⟩ := rmN_nN (n := n) (b := b) (i := i2) hk k0
  refine m_number hB' hin hT h0 (fun z zp => ?_) (fun z σ2 M T => ?_)
  · refine h _ _ (MX.fl.st hS) (hE.keep MX.fl) (fun V _ => MA.pre F ?_)
    have z' : ¬ (rmN n b i2 (nI k)).1.1 = 0 := by rw [e1]; exact z
    unfold oMk
    rw [if_neg z']
    have : (rmN n b i2 (nI k)).1 = ((nN n b i2 0 (hiOf (nI k))).1.1, tS n b i2) := by rw [e1, ← zp]
    rw [this]
    exact MA.fl z hT
  · obtain ⟨m, hm, em, hmh, ev⟩ := e2 z
    have z' : (rmN n b i2 (nI k)).1.1 = 0 := by rw [e1]; exact z
    refine h _ _ (M.st hS) (hE.keep M.mq) (fun V hV => ⟨F.tr M.mq, Or.inl ?_⟩)
    unfold oMk
    rw [if_pos z']
    refine ⟨z', by rw [e1]; exact T, (M.2.2.2.2 24 0 (by omega)).trans h0, ?_⟩
    cases rdg with
    | true => exact Or.inl rfl
    | false =>
      refine Or.inr (fun stk => ?_)
      have q := hV rfl m hm em hmh
      rw [q, ev, run_mark hk hm, em]
theorem vb {V : Bool} : narrow .boolean (.int (bI V)) = .int (bI V) := by cases V <;> rfl
theorem run_not {g : Nat → Int32} {V : Bool} {stk : List Bool} : runB g [800000] (V :: stk) = (!V) :: stk := by
  show step1 g 800000 (V :: stk) = _
  unfold step1
  rw [if_pos (by decide)]
theorem run_and {g : Nat → Int32} {V U : Bool} {stk : List Bool} : runB g [900000] (V :: U :: stk) = (U && V) :: stk := by
  show step1 g 900000 (V :: U :: stk) = _
  unfold step1
  rw [if_neg (by decide), if_pos (by decide)]
theorem run_or {g : Nat → Int32} {V U : Bool} {stk : List Bool} : runB g [1000000] (V :: U :: stk) = (U || V) :: stk := by
  show step1 g 1000000 (V :: U :: stk) = _
  unfold step1
  rw [if_neg (by decide), if_neg (by decide), if_pos (by decide)]
end MONE
