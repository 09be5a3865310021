/-! Rows of numbers; Tokens. -/
section TOK
variable {G : GG} {l : Launch} {d : Nat} {post : Option AVal → AS → Prop} {σ : AS} {kk nn : Nat}
/-- row r holds the n numbers b -/
def RW (σ : AS) (r n : Nat) (b : Nat → Int32) : Prop := ∃ a, gR σ 8 0 r = some (20, a) ∧ gI σ 8 1 r = nI n ∧ n ≤ gN σ 20 a ∧ gN σ 20 a < 2000000 ∧ ∀ i, i < n → gA σ 20 a i = b i
theorem RW.same {P : Nat → Prop} {σ σ' : AS} {r n : Nat} {b : Nat → Int32} (h : RW σ r n b) (k : sameK P σ σ') (h8 : P 8) (h20 : P 20) : RW σ' r n b := by
  obtain ⟨a, h1, h2, h3, h4, h5⟩ := h
  exact ⟨a, by rw [(k 8 h8).2.2.1]; exact h1, by rw [(k 8 h8).2.1]; exact h2, by rw [(k 20 h20).2.2.2.1]; exact h3, by rw [(k 20 h20).2.2.2.1]; exact h4, fun i hi => by rw [(k 20 h20).2.2.2.2.1]; exact h5 i hi⟩
theorem RW.lt {r n : Nat} {b : Nat → Int32} (h : RW σ r n b) : n < 2000000 := by
  obtain ⟨a, h1, h2, h3, h4, h5⟩ := h
  omega
theorem RW.size {r n : Nat} {b : Nat → Int32} (h : RW σ r n b) : gI σ 8 1 r = nI n := by
  obtain ⟨a, h1, h2, h3, h4, h5⟩ := h
  exact h2
def rAt (n : Nat) (b : Nat → Int32) (i : Nat) : Int32 := if i < n then b i else -1
theorem c_at {r n i : Nat} {b : Nat → Int32} (hr : RW σ r n b) (hi : i < 2 ^ 31) (h : post (some (xI (rAt n b i))) σ) : AMet G l M_X7_at d 0 0 [xR (some (8, r)), xI (nI i)] σ post := by
  obtain ⟨a, h1, h2, h3, h4, h5⟩ := hr
  refine AMet.of rfl (Nat.le_of_ble_eq_true rfl) (vc_X7_at ⟨fun c => absurd c (nI_pos hi), fun _ => ⟨fun c => ?_, fun c => ⟨a, h1, fun c2 => ?_, fun c2 => ?_⟩⟩⟩)
  · rw [h2] at c
    have := (nI_leI (by omega) hi).mp c
    rw [rAt, if_neg (by omega)] at h
    exact h
  · rw [h2] at c
    have h6 : ¬ n ≤ i := fun q => c (nI_le q hi)
    have := (nI_leI (by omega) hi).mp c2
    omega
  · rw [h2] at c
    have h6 : ¬ n ≤ i := fun q => c (nI_le q hi)
    rw [rAt, if_pos (by omega)] at h
    exact ⟨vp_in_nI (by omega) (by omega), by rw [nI_clamp hi, h5 i (by omega)]; exact h⟩
theorem c_atNeg {r : Nat} {x : Int32} (hx : x < 0) (h : post (some (xI (-1))) σ) : AMet G l M_X7_at d 0 0 [xR (some (8, r)), xI x] σ post := AMet.of rfl (Nat.le_of_ble_eq_true rfl) (vc_X7_at ⟨fun _ => h, fun c => absurd hx c⟩)
/-- what a byte belongs to -/
def kd (x : Int32) : Int32 := if x = -1 then 0 else if x = 32 ∨ x = 10 then 1 else if ¬ x < 97 ∧ ¬ 122 < x then 2 else if ¬ x < 48 ∧ ¬ 57 < x then 3 else 4
theorem kd_w {x : Int32} (h1 : ¬ x = -1) (h2 : ¬ x = 32) (h3 : ¬ x = 10) (h4 : ¬ x < 97) (h5 : ¬ 122 < x) : kd x = 2 := by
  unfold kd
  rw [if_neg h1, if_neg (fun e => e.elim h2 h3), if_pos ⟨h4, h5⟩]
theorem kd_n {x : Int32} (h1 : ¬ x = -1) (h2 : ¬ x = 32) (h3 : ¬ x = 10) (h4 : x < 97 ∨ 122 < x) (h5 : ¬ x < 48) (h6 : ¬ 57 < x) : kd x = 3 := by
  unfold kd
  rw [if_neg h1, if_neg (fun e => e.elim h2 h3), if_neg (fun e => h4.elim e.1 e.2), if_pos ⟨h5, h6⟩]
theorem kd_s {x : Int32} (h1 : ¬ x = -1) (h2 : ¬ x = 32) (h3 : ¬ x = 10) (h4 : x < 97 ∨ 122 < x) (h5 : x < 48 ∨ 57 < x) : kd x = 4 := by
  unfold kd
  rw [if_neg h1, if_neg (fun e => e.elim h2 h3), if_neg (fun e => h4.elim e.1 e.2), if_neg (fun e => h5.elim e.1 e.2)]
theorem c_kindOf {x : Int32} (h : post (some (xI (kd x))) σ) : AMet G l M_X9_kindOf d 0 0 [xI x] σ post := by
  refine AMet.of rfl (Nat.le_of_ble_eq_true rfl) (vc_X9_kindOf ⟨fun h1 => ⟨fun h2 => ?_, fun h2 => ⟨fun h3 => ⟨fun h4 => ⟨fun h5 => ?_, fun h5 => ⟨fun h6 => ?_, fun h6 => ?_⟩⟩, fun h4 => ⟨fun h7 => ⟨fun h5 => ?_, fun h5 => ⟨fun h6 => ?_, fun h6 => ?_⟩⟩, fun h7 => ?_⟩⟩, fun h3 => ?_⟩⟩, fun h1 => ?_⟩)
  · subst h2; exact h
  · rw [kd_s h1 h2 h3 (Or.inl h4) (Or.inl h5)] at h; exact h
  · rw [kd_s h1 h2 h3 (Or.inl h4) (Or.inr h6)] at h; exact h
  · rw [kd_n h1 h2 h3 (Or.inl h4) h5 h6] at h; exact h
  · rw [kd_s h1 h2 h3 (Or.inr h7) (Or.inl h5)] at h; exact h
  · rw [kd_s h1 h2 h3 (Or.inr h7) (Or.inr h6)] at h; exact h
  · rw [kd_n h1 h2 h3 (Or.inr h7) h5 h6] at h; exact h
  · rw [kd_w h1 h2 h3 h4 h7] at h; exact h
  · subst h3; exact h
  · subst h1; exact h
/-- the kind of the byte at i -/
def tk (n : Nat) (b : Nat → Int32) (i : Nat) : Int32 := kd (rAt n b i)
def skp (n : Nat) (b : Nat → Int32) : Nat → Nat → Nat
  | 0, i => i
  | f + 1, i => if tk n b i = 1 then skp n b f (i + 1) else i
def rnn (n : Nat) (b : Nat → Int32) (k : Int32) : Nat → Nat → Nat
  | 0, i => i
  | f + 1, i => if ¬ k = 4 ∧ tk n b i = k then rnn n b k f (i + 1) else i
def dig (n : Nat) (b : Nat → Int32) (k : Int32) : Nat → Nat → Int32 → Int32
  | 0, _, v => v
  | f + 1, i, v => if ¬ k = 4 ∧ tk n b i = k then dig n b k f (i + 1) (v * 10 + rAt n b i - 48) else v
/-- a token is read: only its own places change -/
def TF (σ σ' : AS) : Prop := sameK (fun c => c ≠ 10) σ σ' ∧ cnt σ' 10 = cnt σ 10 ∧ (∀ f i, gR σ' 10 f i = gR σ 10 f i) ∧ (∀ i, gN σ' 10 i = gN σ 10 i) ∧ gI σ' 10 0 0 = gI σ 10 0 0 ∧ gI σ' 10 1 0 = gI σ 10 1 0
theorem TF.rf : TF σ σ := ⟨sameK.rf, rfl, fun _ _ => rfl, fun _ => rfl, rfl, rfl⟩
theorem TF.tr {σ1 σ2 : AS} (h : TF σ σ1) (k : TF σ1 σ2) : TF σ σ2 := ⟨h.1.tr k.1, k.2.1.trans h.2.1, fun f i => (k.2.2.1 f i).trans (h.2.2.1 f i), fun i => (k.2.2.2.1 i).trans (h.2.2.2.1 i), k.2.2.2.2.1.trans h.2.2.2.2.1, k.2.2.2.2.2.trans h.2.2.2.2.2⟩
theorem TF.sI {σ1 : AS} {f : Nat} {v : Int32} (h : TF σ σ1) (h0 : f ≠ 0) (h1 : f ≠ 1) : TF σ (sI σ1 10 f 0 v) := h.tr ⟨fun c hc => eqK_sI hc, rfl, fun _ _ => rfl, fun _ => rfl, by rw [gI_sI, if_neg (fun e => h0 e.2.1.symm)], by rw [gI_sI, if_neg (fun e => h1 e.2.1.symm)]⟩
theorem TF.st {σ' : AS} (h : TF σ σ') (hS : St σ) : St σ' := hS.of fun c _ => by
  by_cases hc : c = 10
  · subst hc
    exact ⟨fun f i _ => h.2.2.1 f i, fun i _ => h.2.2.2.1 i, Nat.le_of_eq h.2.1.symm⟩
  · have k := h.1 c hc
    exact ⟨fun f i _ => k.2.2.1 f i, fun i _ => k.2.2.2.1 i, Nat.le_of_eq k.1.symm⟩
theorem TF.rw {σ' : AS} {r n : Nat} {b : Nat → Int32} (h : TF σ σ') (k : RW σ r n b) : RW σ' r n b := k.same h.1 (by decide) (by decide)
theorem gI_o {σ : AS} {c f i c' f' i' : Nat} {v : Int32} (h : ¬ (c = c' ∧ f = f' ∧ i = i')) : gI (sI σ c' f' i' v) c f i = gI σ c f i := by rw [gI_sI, if_neg h]
theorem a_run {n : Nat} {b : Nat → Int32} {K : Int32} : ∀ (f j : Nat) (v : Int32) (σ : AS), St σ → RW σ 0 n b → n - j = f → j ≤ n → gI σ 10 3 0 = K → gI σ 10 5 0 = nI j → gI σ 10 6 0 = v →
    (∀ σ', TF σ σ' → gI σ' 10 3 0 = K → gI σ' 10 4 0 = gI σ 10 4 0 → gI σ' 10 5 0 = nI (rnn n b K f j) → gI σ' 10 6 0 = dig n b K f j v → post none σ') →
    AW G l M_X9_advance (d + 1) post σ kk nn 101 [some (xR (some (10, 0)))] [] := by
  intro f
  induction f with
  | zero =>
    intro j v σ hS hR hf hj h3 h5 h6 h
    have hn := hR.lt
    refine vc_X9_advance_101 hS ⟨fun _ => h σ TF.rf h3 rfl h5 h6, fun c => ?_⟩
    rw [hR.size, h5] at c
    exact absurd (nI_le (by omega) (by omega)) c
  | succ f ih =>
    intro j v σ hS hR hf hj h3 h5 h6 h
    have hn := hR.lt
    refine vc_X9_advance_101 hS ⟨fun c => ?_, fun _ => ⟨fun c4 => ?_, fun c4 => ?_⟩⟩
    · rw [hR.size, h5] at c
      exact absurd ((nI_leI (by omega) (by omega)).mp c) (by omega)
    · rw [h3] at c4
      refine h σ TF.rf h3 rfl ?_ ?_
      · rw [rnn, if_neg (fun e => e.1 c4)]; exact h5
      · rw [dig, if_neg (fun e => e.1 c4)]; exact h6
    · rw [h3] at c4
      rw [h5]
      refine c_at hR (by omega) (c_kindOf ⟨hS, fun c => ?_, fun c => ?_⟩)
      · rw [h3] at c
        refine h σ TF.rf h3 rfl ?_ ?_
        · rw [rnn, if_neg (fun e => c e.2)]; exact h5
        · rw [dig, if_neg (fun e => c e.2)]; exact h6
      · rw [h3] at c
        rw [h5]
        refine c_at hR (by omega) ?_
        rw [h6]
        have T1 : TF σ (sI (sI σ 10 6 0 (v * 10 + rAt n b j - 48)) 10 5 0 (gI σ 10 5 0 + 1)) := (TF.rf.sI (by decide) (by decide)).sI (by decide) (by decide)
        refine ih (j + 1) (v * 10 + rAt n b j - 48) _ (T1.st hS) (T1.rw hR) (by omega) (by omega) ?_ ?_ ?_ (fun σ' hT g3 g4 g5 g6 => ?_)
        · rw [gI_o (by decide), gI_o (by decide)]; exact h3
        · rw [gI_self, h5, nI_1]
        · rw [gI_o (by decide), gI_self]
        · refine h σ' (T1.tr hT) g3 ?_ ?_ ?_
          · rw [g4, gI_o (by decide), gI_o (by decide)]
          · rw [rnn, if_pos ⟨c4, c⟩]; exact g5
          · rw [dig, if_pos ⟨c4, c⟩]; exact g6
theorem skp_le {n : Nat} {b : Nat → Int32} : ∀ (f j : Nat), n - j = f → j ≤ n → j ≤ skp n b f j ∧ skp n b f j ≤ n
  | 0, j, h, k => ⟨Nat.le_refl _, k⟩
  | f + 1, j, h, k => by
    rw [skp]
    split
    · have := skp_le (n := n) (b := b) f (j + 1) (by omega) (by omega)
      omega
    · omega
theorem rnn_le {n : Nat} {b : Nat → Int32} {K : Int32} : ∀ (f j : Nat), n - j = f → j ≤ n → j ≤ rnn n b K f j ∧ rnn n b K f j ≤ n
  | 0, j, h, k => ⟨Nat.le_refl _, k⟩
  | f + 1, j, h, k => by
    rw [rnn]
    split
    · have := rnn_le (n := n) (b := b) (K := K) f (j + 1) (by omega) (by omega)
      omega
    · omega
/-- the token at i: where it starts, its kind, where it ends, its value -/
def tS (n : Nat) (b : Nat → Int32) (i : Nat) : Nat := skp n b (n - i) i
def tK (n : Nat) (b : Nat → Int32) (i : Nat) : Int32 := tk n b (tS n b i)
def tE (n : Nat) (b : Nat → Int32) (i : Nat) : Nat := if tK n b i = 4 then tS n b i + 1 else rnn n b (tK n b i) (n - tS n b i) (tS n b i)
def tV (n : Nat) (b : Nat → Int32) (i : Nat) : Int32 := if tK n b i = 4 then 0 else dig n b (tK n b i) (n - tS n b i) (tS n b i) 0
theorem tk_end {n : Nat} {b : Nat → Int32} : tk n b n = 0 := by
  unfold tk rAt
  rw [if_neg (Nat.lt_irrefl n)]
  rfl
theorem tS_le {n i : Nat} {b : Nat → Int32} (h : i ≤ n) : i ≤ tS n b i ∧ tS n b i ≤ n := skp_le _ _ rfl h
theorem tE_le {n i : Nat} {b : Nat → Int32} (h : i ≤ n) : tS n b i ≤ tE n b i ∧ tE n b i ≤ n := by
  have hs := tS_le (b := b) h
  unfold tE
  split
  · rename_i e
    refine ⟨by omega, ?_⟩
    rcases Nat.lt_or_ge (tS n b i) n with h1 | h1
    · omega
    · have : tS n b i = n := by omega
      rw [tK, this, tk_end] at e
      exact absurd e (by decide)
  · exact rnn_le _ _ rfl hs.2
theorem a_skip {n : Nat} {b : Nat → Int32} : ∀ (f j : Nat) (σ : AS), St σ → RW σ 0 n b → n - j = f → j ≤ n → gI σ 10 4 0 = nI j →
    (∀ σ' (s : Nat), s = skp n b f j → TF σ σ' → gI σ' 10 3 0 = tk n b s → gI σ' 10 4 0 = nI s → gI σ' 10 5 0 = nI (if tk n b s = 4 then s + 1 else s) → gI σ' 10 6 0 = 0 → AW G l M_X9_advance (d + 1) post σ' kk nn 101 [some (xR (some (10, 0)))] []) →
    AW G l M_X9_advance (d + 1) post σ kk nn 8 [some (xR (some (10, 0)))] [] := by
  have fin : ∀ (f j : Nat) (σ : AS), RW σ 0 n b → j ≤ n → gI σ 10 4 0 = nI j → skp n b f j = j →
      (∀ σ' (s : Nat), s = skp n b f j → TF σ σ' → gI σ' 10 3 0 = tk n b s → gI σ' 10 4 0 = nI s → gI σ' 10 5 0 = nI (if tk n b s = 4 then s + 1 else s) → gI σ' 10 6 0 = 0 → AW G l M_X9_advance (d + 1) post σ' kk nn 101 [some (xR (some (10, 0)))] []) →
      AMet G l M_X7_at d 0 0 [xR (some (8, 0)), xI (gI σ 10 4 0)] σ (retI (fun x2 σ1 => AMet G l M_X9_kindOf d 0 0 [xI x2] σ1 (retI (fun x4 σ3 => (¬ x4 = 4 → AW G l M_X9_advance (d + 1) post (sI (sI (sI σ3 10 3 0 x4) 10 6 0 0) 10 5 0 (gI σ3 10 4 0)) kk nn 101 [some (xR (some (10, 0)))] []) ∧ (x4 = 4 → AW G l M_X9_advance (d + 1) post (sI (sI (sI σ3 10 3 0 x4) 10 6 0 0) 10 5 0 ((gI σ3 10 4 0) + 1)) kk nn 101 [some (xR (some (10, 0)))] []))))) := by
    intro f j σ hR hj h4 hs h
    have hn := hR.lt
    rw [h4]
    refine c_at hR (by omega) (c_kindOf ⟨fun c => ?_, fun c => ?_⟩)
    · refine h _ j hs.symm (((TF.rf.sI (by decide) (by decide)).sI (by decide) (by decide)).sI (by decide) (by decide)) ?_ ?_ ?_ ?_
      · rw [gI_o (by decide), gI_o (by decide), gI_self]; rfl
      · rw [gI_o (by decide), gI_o (by decide), gI_o (by decide)]; exact h4
      · rw [gI_self, if_neg (show ¬ tk n b j = 4 from c)]; exact h4
      · rw [gI_o (by decide), gI_self]
    · refine h _ j hs.symm (((TF.rf.sI (by decide) (by decide)).sI (by decide) (by decide)).sI (by decide) (by decide)) ?_ ?_ ?_ ?_
      · rw [gI_o (by decide), gI_o (by decide), gI_self]; rfl
      · rw [gI_o (by decide), gI_o (by decide), gI_o (by decide)]; exact h4
      · rw [gI_self, if_pos (show tk n b j = 4 from c), h4, nI_1]
      · rw [gI_o (by decide), gI_self]
  intro f
  induction f with
  | zero =>
    intro j σ hS hR hf hj h4 h
    have hn := hR.lt
    refine vc_X9_advance_8 hS ⟨fun _ => fin 0 j σ hR hj h4 rfl h, fun c => ?_⟩
    rw [hR.size, h4] at c
    exact absurd (nI_le (by omega) (by omega)) c
  | succ f ih =>
    intro j σ hS hR hf hj h4 h
    have hn := hR.lt
    refine vc_X9_advance_8 hS ⟨fun c => ?_, fun _ => ?_⟩
    · rw [hR.size, h4] at c
      exact absurd ((nI_leI (by omega) (by omega)).mp c) (by omega)
    · rw [h4]
      refine c_at hR (by omega) (c_kindOf ⟨hS, fun c => ?_, fun c => ?_⟩)
      · exact fin (f + 1) j σ hR hj h4 (by rw [skp, if_neg (show ¬ tk n b j = 1 from c)]) h
      · have T1 : TF σ (sI σ 10 4 0 (gI σ 10 4 0 + 1)) := TF.rf.sI (by decide) (by decide)
        refine ih (j + 1) _ (T1.st hS) (T1.rw hR) (by omega) (by omega) (by rw [gI_self, h4, nI_1]) (fun σ' s hs hT => h σ' s ?_ (T1.tr hT))
        rw [skp, if_pos (show tk n b j = 1 from c)]
        exact hs
/-- the token at i stands in the places of Tokens -/
def Tok (σ : AS) (n : Nat) (b : Nat → Int32) (i : Nat) : Prop := gI σ 10 3 0 = tK n b i ∧ gI σ 10 4 0 = nI (tS n b i) ∧ gI σ 10 5 0 = nI (tE n b i) ∧ gI σ 10 6 0 = tV n b i
theorem c_advance {n i : Nat} {b : Nat → Int32} (hS : St σ) (hR : RW σ 0 n b) (hi : i ≤ n) (h5 : gI σ 10 5 0 = nI i) (h : ∀ σ', TF σ σ' → Tok σ' n b i → post none σ') : AMet G l M_X9_advance (d + 1) 0 0 [xR (some (10, 0))] σ post := by
  have hn := hR.lt
  refine AMet.of rfl (Nat.le_of_ble_eq_true rfl) (vc_X9_advance ?_)
  have T0 : TF σ (sI σ 10 4 0 (gI σ 10 5 0)) := TF.rf.sI (by decide) (by decide)
  refine a_skip (n - i) i _ (T0.st hS) (T0.rw hR) rfl hi (by rw [gI_self]; exact h5) (fun σ1 s hs T1 g3 g4 g5 g6 => ?_)
  have hs : s = tS n b i := hs
  subst hs
  have T2 := T0.tr T1
  have hsl := tS_le (b := b) hi
  by_cases c4 : tk n b (tS n b i) = 4
  · rw [if_pos c4] at g5
    have hle := tE_le (b := b) hi
    have hE : tE n b i = tS n b i + 1 := by unfold tE; rw [if_pos (show tK n b i = 4 from c4)]
    rw [hE] at hle
    refine a_run (n - (tS n b i + 1)) (tS n b i + 1) 0 σ1 (T2.st hS) (T2.rw hR) rfl (by omega) (g3.trans c4) g5 g6 (fun σ' T3 k3 k4 k5 k6 => h σ' (T2.tr T3) ⟨k3.trans c4.symm, k4.trans g4, ?_, ?_⟩)
    · rw [hE, k5]
      cases n - (tS n b i + 1) with
      | zero => rfl
      | succ q => rw [rnn, if_neg (fun e => e.1 rfl)]
    · rw [k6, tV, if_pos (show tK n b i = 4 from c4)]
      cases n - (tS n b i + 1) with
      | zero => rfl
      | succ q => rw [dig, if_neg (fun e => e.1 rfl)]
  · rw [if_neg c4] at g5
    refine a_run (n - tS n b i) (tS n b i) 0 σ1 (T2.st hS) (T2.rw hR) rfl hsl.2 g3 g5 g6 (fun σ' T3 k3 k4 k5 k6 => h σ' (T2.tr T3) ⟨k3, k4.trans g4, ?_, ?_⟩)
    · rw [k5, tE, if_neg (show ¬ tK n b i = 4 from c4)]; rfl
    · rw [k6, tV, if_neg (show ¬ tK n b i = 4 from c4)]; rfl
def bI : Bool → Int32
  | true => 1
  | false => 0
theorem bI_ne {x : Bool} : ¬ bI x = 0 ↔ x = true := by cases x <;> decide
theorem bI_eq {x : Bool} : bI x = 0 ↔ x = false := by cases x <;> decide
theorem nI_subl {a b : Nat} (h : a ≤ b) (hb : b < 2 ^ 31) : nI b - nI a = nI (b - a) := by
  have := nI_add (b - a) a
  rw [Nat.sub_add_cancel h] at this
  rw [← this]
  exact Int32.add_sub_cancel ..
def wEq (n : Nat) (b : Nat → Int32) (s w : Nat) : Nat → Nat → Bool
  | 0, _ => true
  | f + 1, j => if rAt n b (s + j) = jsC w j then wEq n b s w f (j + 1) else false
def isW (n : Nat) (b : Nat → Int32) (i w : Nat) : Bool := if tK n b i = 2 then (if tE n b i - tS n b i = jsN w then wEq n b (tS n b i) w (jsN w) 0 else false) else false
theorem a_isW {n : Nat} {b : Nat → Int32} {s w : Nat} (hS : St σ) (hR : RW σ 0 n b) (hs : s ≤ n) (h4 : gI σ 10 4 0 = nI s) : ∀ (f j : Nat), jsN w - j = f → j ≤ jsN w → post (some (xI (bI (wEq n b s w f j)))) σ → AW G l M_X9_isWord (d + 4) post σ kk nn 28 [some (xR (some (10, 0))), some (xR (some (30, w))), some (xI (nI j))] [] := by
  have hn := hR.lt
  have hN := jsN_lt w
  intro f
  induction f with
  | zero =>
    intro j hf hj h
    refine vc_X9_isWord_28 (d := d + 3) (c_sLen ⟨hS, fun _ => h, fun c => ?_⟩)
    exact absurd (nI_le (show jsN w ≤ j by omega) (by omega)) c
  | succ f ih =>
    intro j hf hj h
    refine vc_X9_isWord_28 (d := d + 3) (c_sLen ⟨hS, fun c => ?_, fun _ => ?_⟩)
    · exact absurd ((nI_leI (by omega) (by omega)).mp c) (by omega)
    · rw [h4, nI_add]
      rw [wEq] at h
      refine c_at hR (by omega) (c_charAt (by omega) ⟨fun c => ?_, fun c => ?_⟩)
      · rw [nI_1]
        rw [if_pos c] at h
        exact ih (j + 1) (by omega) (by omega) h
      · rw [if_neg c] at h
        exact h
theorem c_isWord {n i w : Nat} {b : Nat → Int32} (hS : St σ) (hR : RW σ 0 n b) (hi : i ≤ n) (hT : Tok σ n b i) (h : post (some (xI (bI (isW n b i w)))) σ) : AMet G l M_X9_isWord (d + 4) 0 0 [xR (some (10, 0)), xR (some (30, w))] σ post := by
  have hn := hR.lt
  have hN := jsN_lt w
  have hle := tE_le (b := b) hi
  obtain ⟨t3, t4, t5, t6⟩ := hT
  refine AMet.of rfl (Nat.le_of_ble_eq_true rfl) (vc_X9_isWord (d := d + 3) ⟨fun c => ?_, fun c => c_sLen ⟨fun c2 => ?_, fun c2 => ?_⟩⟩)
  · rw [t3] at c
    rw [isW, if_neg c] at h
    exact h
  · rw [t3] at c
    rw [t4, t5, nI_subl hle.1 (by omega), nI_eq (by omega) (by omega)] at c2
    rw [isW, if_pos c, if_pos c2] at h
    exact a_isW hS hR (by omega) t4 (jsN w) 0 rfl (Nat.zero_le _) h
  · rw [t3] at c
    rw [t4, t5, nI_subl hle.1 (by omega), nI_eq (by omega) (by omega)] at c2
    rw [isW, if_pos c, if_neg c2] at h
    exact h
def isG (n : Nat) (b : Nat → Int32) (i : Nat) (x : Int32) : Bool := if tK n b i = 4 then (if rAt n b (tS n b i) = x then true else false) else false
theorem c_isSign {n i : Nat} {b : Nat → Int32} {x : Int32} (hS : St σ) (hR : RW σ 0 n b) (hi : i ≤ n) (hT : Tok σ n b i) (h : post (some (xI (bI (isG n b i x)))) σ) : AMet G l M_X9_isSign (d + 1) 0 0 [xR (some (10, 0)), xI x] σ post := by
  have hn := hR.lt
  have hle := tE_le (b := b) hi
  obtain ⟨t3, t4, t5, t6⟩ := hT
  refine AMet.of rfl (Nat.le_of_ble_eq_true rfl) (vc_X9_isSign hS ⟨fun c => ?_, fun c => ?_⟩)
  · rw [t3] at c
    rw [isG, if_neg c] at h
    exact h
  · rw [t3] at c
    rw [isG, if_pos c] at h
    rw [t4]
    refine c_at hR (by omega) ⟨fun c2 => ?_, fun c2 => ?_⟩
    · rw [if_neg c2] at h
      exact h
    · rw [if_pos c2] at h
      exact h
/-- the fault k at the token that stands here -/
def FailS (σ : AS) (k : Int32) : AS := sI (sI σ 10 0 0 k) 10 1 0 (gI σ 10 4 0)
theorem c_fail {k : Int32} (h : post (some (xI 0)) (FailS σ k)) : AMet G l M_X9_fail d 0 0 [xR (some (10, 0)), xI k] σ post := AMet.of rfl (Nat.le_of_ble_eq_true rfl) (vc_X9_fail h)
theorem c_passWord {n i w : Nat} {b : Nat → Int32} (hS : St σ) (hR : RW σ 0 n b) (hi : i ≤ n) (hT : Tok σ n b i) (h0 : isW n b i w = false → post (some (xI 0)) (FailS σ 1)) (h1 : isW n b i w = true → ∀ σ', TF σ σ' → Tok σ' n b (tE n b i) → post (some (xI 1)) σ') : AMet G l M_X9_passWord (d + 5) 0 0 [xR (some (10, 0)), xR (some (30, w))] σ post := by
  have hle := tE_le (b := b) hi
  refine AMet.of rfl (Nat.le_of_ble_eq_true rfl) (vc_X9_passWord (d := d + 4) (c_isWord hS hR hi hT ⟨fun c => ?_, fun c => ?_⟩))
  · exact c_advance hS hR hle.2 hT.2.2.1 (h1 (bI_ne.mp c))
  · exact c_fail ⟨by decide, h0 (bI_eq.mp c)⟩
theorem c_passSign {n i : Nat} {b : Nat → Int32} {x : Int32} (hS : St σ) (hR : RW σ 0 n b) (hi : i ≤ n) (hT : Tok σ n b i) (h0 : isG n b i x = false → post (some (xI 0)) (FailS σ 1)) (h1 : isG n b i x = true → ∀ σ', TF σ σ' → Tok σ' n b (tE n b i) → post (some (xI 1)) σ') : AMet G l M_X9_passSign (d + 2) 0 0 [xR (some (10, 0)), xI x] σ post := by
  have hle := tE_le (b := b) hi
  refine AMet.of rfl (Nat.le_of_ble_eq_true rfl) (vc_X9_passSign (d := d + 1) (c_isSign hS hR hi hT ⟨fun c => ?_, fun c => ?_⟩))
  · exact c_advance hS hR hle.2 hT.2.2.1 (h1 (bI_ne.mp c))
  · exact c_fail ⟨by decide, h0 (bI_eq.mp c)⟩
theorem c_within {x lo hi : Int32} (h0 : x < lo ∨ hi < x → post (some (xI 0)) σ) (h1 : ¬ x < lo → ¬ hi < x → post (some (xI 1)) σ) : AMet G l M_X11_within d 0 0 [xI x, xI lo, xI hi] σ post := AMet.of rfl (Nat.le_of_ble_eq_true rfl) (vc_X11_within ⟨fun c => h0 (Or.inl c), fun c => ⟨fun c2 => h0 (Or.inr c2), fun c2 => h1 c c2⟩⟩)
def isN (n : Nat) (b : Nat → Int32) (i : Nat) : Prop := tK n b i = 3 ∧ tE n b i - tS n b i ≤ 5
theorem c_passNumber {n i : Nat} {b : Nat → Int32} {lo hi : Int32} (hS : St σ) (hR : RW σ 0 n b) (hin : i ≤ n) (hT : Tok σ n b i) (h0 : ¬ isN n b i → post (some (xI (-1))) (FailS σ 1)) (h2 : isN n b i → tV n b i < lo ∨ hi < tV n b i → post (some (xI (-1))) (FailS σ 2)) (h1 : isN n b i → ¬ tV n b i < lo → ¬ hi < tV n b i → ∀ σ', TF σ σ' → Tok σ' n b (tE n b i) → post (some (xI (tV n b i))) σ') : AMet G l M_X9_passNumber (d + 2) 0 0 [xR (some (10, 0)), xI lo, xI hi] σ post := by
  have hn := hR.lt
  have hle := tE_le (b := b) hin
  have t := hT
  obtain ⟨t3, t4, t5, t6⟩ := t
  have e5 : (gI σ 10 5 0 - gI σ 10 4 0 ≤ 5) ↔ tE n b i - tS n b i ≤ 5 := by
    rw [t4, t5, nI_subl hle.1 (by omega)]
    exact nI_leI (b := 5) (by omega) (by decide)
  refine AMet.of rfl (Nat.le_of_ble_eq_true rfl) (vc_X9_passNumber (d := d + 1) ⟨fun c => c_fail (h0 (fun e => c (t3.trans e.1))), fun c => ⟨fun c5 => ?_, fun c5 => c_fail (h0 (fun e => c5 (e5.mpr e.2)))⟩⟩)
  have hN : isN n b i := ⟨t3.symm.trans c, e5.mp c5⟩
  rw [t6]
  refine c_within (fun hw => ⟨fun c => absurd rfl c, fun _ => c_fail (h2 hN hw)⟩) (fun w1 w2 => ⟨fun _ => ?_, fun c => absurd c (by decide)⟩)
  refine c_advance hS hR hle.2 t5 (fun σ' T k => ?_)
  rw [t6]
  exact h1 hN w1 w2 σ' T k
end TOK
