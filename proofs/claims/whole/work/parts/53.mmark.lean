/-! The model reads what is wanted: marks. -/
section MMARK
variable {G : GG} {l : Launch} {d : Nat} {post : Option AVal → AS → Prop} {σ : AS} {kk nn : Nat}
/-- reading changes so much of the model -/
def MX (σ σ' : AS) : Prop := sameK (fun c => c ≠ 13) σ σ' ∧ cnt σ' 13 = cnt σ 13 ∧ (∀ f i, gR σ' 13 f i = gR σ 13 f i) ∧ (∀ i, gN σ' 13 i = gN σ 13 i) ∧ ∀ f i, ¬ (20 ≤ f ∧ f ≤ 25) → gI σ' 13 f i = gI σ 13 f i
theorem MX.rf : MX σ σ := ⟨sameK.rf, rfl, fun _ _ => rfl, fun _ => rfl, fun _ _ _ => rfl⟩
theorem MX.tr {σ1 σ2 : AS} (h : MX σ σ1) (k : MX σ1 σ2) : MX σ σ2 := ⟨h.1.tr k.1, k.2.1.trans h.2.1, fun f i => (k.2.2.1 f i).trans (h.2.2.1 f i), fun i => (k.2.2.2.1 i).trans (h.2.2.2.1 i), fun f i z => (k.2.2.2.2 f i z).trans (h.2.2.2.2 f i z)⟩
theorem MN.mq {σ' : AS} (h : MN σ σ') : MX σ σ' := ⟨h.1, h.2.1, h.2.2.1, h.2.2.2.1, fun f i z => h.2.2.2.2 f i (by omega)⟩
theorem MX.fl {k : Int32} : MX σ (MFl σ k) := ⟨fun c hc => (eqK_sI hc).tr (eqK_sI hc), rfl, fun _ _ => rfl, fun _ => rfl, fun f i z => by unfold MFl; rw [gI_o (fun e => z (by omega)), gI_o (fun e => z (by omega))]⟩
theorem MX.mb {σ' : AS} {j n : Nat} {b : Nat → Int32} (h : MX σ σ') (k : MB σ j n b) : MB σ' j n b := ⟨(h.2.2.1 18 0).trans k.1, (h.2.2.2.2 19 0 (by omega)).trans k.2.1, k.2.2.1, ((h.1 22 (by decide)).2.2.2.1 j).trans k.2.2.2.1, fun i hi => ((h.1 22 (by decide)).2.2.2.2.1 j i).trans (k.2.2.2.2.1 i hi), k.2.2.2.2.2⟩
theorem MX.st {σ' : AS} (h : MX σ σ') (hS : St σ) : St σ' := hS.of fun c _ => by
  by_cases e : c = 13
  · subst e; exact ⟨fun f i _ => h.2.2.1 f i, fun i _ => h.2.2.2.1 i, Nat.le_of_eq h.2.1.symm⟩
  · have k := h.1 c e
    exact ⟨fun f i _ => k.2.2.1 f i, fun i _ => k.2.2.2.1 i, Nat.le_of_eq k.1.symm⟩
/-- how many of the first k facts tell of p in v -/
def timN (P S : Nat → Int32) (p v : Int32) : Nat → Nat
  | 0 => 0
  | k + 1 => timN P S p v k + (if P k = p ∧ S k = v then 1 else 0)
theorem timN_le {P S : Nat → Int32} {p v : Int32} : ∀ k, timN P S p v k ≤ k
  | 0 => Nat.le_refl _
  | k + 1 => by
    have := timN_le (P := P) (S := S) (p := p) (v := v) k
    rw [timN]; split <;> omega
theorem m_times {k : Nat} {p v : Int32} (hS : St σ) (hk : k ≤ 2600) (h : post (some (xI (nI (timN (fun i => gA σ 26 8 i) (fun i => gA σ 26 9 i) p v k)))) σ) : AMet G l M_X12_times d 0 0 [xR (some (13, 0)), xI p, xI v, xI (nI k)] σ post := by
  have loop : ∀ (f i : Nat), k - i = f → i ≤ k → AW G l M_X12_times d post σ 0 0 6 [some (xR (some (13, 0))), some (xI p), some (xI v), some (xI (nI k)), some (xI (nI (timN (fun i => gA σ 26 8 i) (fun i => gA σ 26 9 i) p v i))), some (xI (nI i))] [] := by
    intro f
    induction f with
    | zero =>
      intro i hf hi
      have e : i = k := by omega
      subst e
      exact vc_X12_times_6 hS ⟨fun _ => h, fun c => absurd (nI_le (Nat.le_refl i) (by omega)) c⟩
    | succ f ih =>
      intro i hf hi
      have z := ih (i + 1) (by omega) (by omega)
      rw [timN] at z
      refine vc_X12_times_6 hS ⟨fun c => absurd ((nI_leI (by omega) (by omega)).mp c) (by omega), fun _ => ⟨vp_in_nI (by omega) (by decide), fun c => ?_, fun c => ⟨vp_in_nI (by omega) (by decide), fun c2 => ?_, fun c2 => ?_⟩⟩⟩
      · rw [nI_clamp (by omega)] at c
        rw [nI_1]
        rw [if_neg (fun q => c q.1)] at z
        exact z
      · rw [nI_clamp (by omega)] at c2
        rw [nI_1]
        rw [if_neg (fun q => c2 q.2)] at z
        exact z
      · rw [nI_clamp (by omega)] at c c2
        rw [nI_1, nI_1]
        rw [if_pos ⟨c, c2⟩] at z
        exact z
  refine AMet.of rfl (Nat.le_of_ble_eq_true rfl) (vc_X12_times ?_)
  have q := loop k 0 rfl (Nat.zero_le _)
  have e : timN (fun i => gA σ 26 8 i) (fun i => gA σ 26 9 i) p v 0 = 0 := rfl
  rw [e, nI_0] at q
  exact q
/-- the model evaluates for one with the fields f (or only reads) -/
def EvF (σ : AS) (rdg : Bool) (f : Nat → Int32) : Prop := (rdg = true ∧ ¬ gI σ 13 27 0 = 0) ∨ (rdg = false ∧ gI σ 13 27 0 = 0 ∧ ∃ p F, p < 40 ∧ gI σ 13 28 0 = nI p ∧ gI σ 13 12 0 = nI F ∧ F ≤ 2600 ∧ gA σ 26 0 p = f 1 ∧ gA σ 26 1 p = f 2 ∧ gA σ 26 2 p = f 3 ∧ gA σ 26 3 p = f 4 ∧ ∀ v, v < 20 → ((0 < timN (fun i => gA σ 26 8 i) (fun i => gA σ 26 9 i) (nI p) (nI v) F) ↔ jb (f 9) (nI v) = true))
theorem EvF.keep {σ' : AS} {rdg : Bool} {f : Nat → Int32} (h : EvF σ rdg f) (M : MX σ σ') : EvF σ' rdg f := by
  have g := M.2.2.2.2
  have a := (M.1 26 (by decide)).2.2.2.2.1
  rcases h with ⟨h1, h2⟩ | ⟨h1, h2, p, F, h3, h4, h5, h6, h7, h8, h9, h10, h11⟩
  · exact Or.inl ⟨h1, by rw [g 27 0 (by omega)]; exact h2⟩
  · refine Or.inr ⟨h1, (g 27 0 (by omega)).trans h2, p, F, h3, (g 28 0 (by omega)).trans h4, (g 12 0 (by omega)).trans h5, h6, (a 0 p).trans h7, (a 1 p).trans h8, (a 2 p).trans h9, (a 3 p).trans h10, fun v hv => ?_⟩
    have e1 : (fun i => gA σ' 26 8 i) = (fun i => gA σ 26 8 i) := funext (a 8)
    have e2 : (fun i => gA σ' 26 9 i) = (fun i => gA σ 26 9 i) := funext (a 9)
    rw [e1, e2]; exact h11 v hv
def VAL (rdg : Bool) (f : Nat → Int32) (s : List Int32) (V : Bool) : Prop := rdg = true ∨ ∀ stk, runB f s stk = V :: stk
/-- behind a part that the model read from token i on: what it told (o), the answer V -/
def MA (rdg : Bool) (f : Nat → Int32) (σ σ' : AS) (n : Nat) (b : Nat → Int32) (o : RR) (V : Bool) : Prop := MX σ σ' ∧ ((o.1.1 = 0 ∧ MTok σ' n b o.1.2 ∧ gI σ' 13 24 0 = 0 ∧ VAL rdg f o.2 V) ∨ (¬ o.1.1 = 0 ∧ gI σ' 13 24 0 = o.1.1 ∧ gI σ' 13 25 0 = nI o.1.2))
theorem MA.pre {rdg : Bool} {f : Nat → Int32} {σ1 σ' : AS} {n : Nat} {b : Nat → Int32} {o : RR} {V : Bool} (F : MX σ σ1) (h : MA rdg f σ1 σ' n b o V) : MA rdg f σ σ' n b o V := ⟨F.tr h.1, h.2⟩
theorem MA.fl {rdg : Bool} {f : Nat → Int32} {n i : Nat} {b : Nat → Int32} {k : Int32} {V : Bool} (hk : ¬ k = 0) (hT : MTok σ n b i) : MA rdg f σ (MFl σ k) n b ((k, tS n b i), []) V := ⟨MX.fl, Or.inr ⟨hk, by unfold MFl; rw [gI_o (by decide), gI_self], by unfold MFl; rw [gI_self]; exact hT.1⟩⟩
theorem run_mark {f : Nat → Int32} {k m : Nat} (hk : k ≤ 7) (hm : m ≤ 99999) (stk : List Bool) : runB f [nI (k * 100000 + m)] stk = hB f (nI k) (nI m) :: stk := by
  obtain ⟨n8, n9, n10⟩ := nk_ne k hk
  obtain ⟨e1, e2⟩ := stK_of (show k ≤ 10 by omega) hm
  show runB f [] (step1 f (nI (k * 100000 + m)) stk) = _
  unfold step1
  rw [e1, e2, if_neg n8, if_neg n9, if_neg n10]
  rfl
/-- a mark's number -/
theorem rmN_nN {n i k : Nat} {b : Nat → Int32} (hk : k ≤ 7) (h0 : k ≠ 0) : (rmN n b i (nI k)).1 = (nN n b i 0 (hiOf (nI k))).1 ∧ ((nN n b i 0 (hiOf (nI k))).1.1 = 0 → ∃ m, m ≤ 99999 ∧ (nN n b i 0 (hiOf (nI k))).2 = nI m ∧ nI m ≤ hiOf (nI k) ∧ (rmN n b i (nI k)).2 = nI (k * 100000 + m)) := by
  have hne : ¬ nI k = 0 := nI_ne0 (by omega) (by omega)
  unfold rmN nN
  rw [if_neg hne]
  by_cases c2 : tK n b i = 3 ∧ tE n b i - tS n b i ≤ 5
  · rw [if_pos c2, if_pos c2]
    by_cases c3 : tV n b i < 0 ∨ hiOf (nI k) < tV n b i
    · rw [if_pos c3, if_pos c3]
      exact ⟨rfl, fun z => absurd z i2n0⟩
    · rw [if_neg c3, if_neg c3]
      refine ⟨rfl, fun _ => ?_⟩
      obtain ⟨m, hm, e⟩ := nI_of (x := tV n b i) (fun q => c3 (Or.inl q))
      have h9 : hiOf (nI k) ≤ 99999 := by
        have : ∀ k, k ≤ 7 → hiOf (nI k) ≤ 99999 := by decide +kernel
        exact this k hk
      have h7' : nI m ≤ hiOf (nI k) := by rw [← e]; exact Int32.not_lt.mp (fun q => c3 (Or.inr q))
      have h8 : nI m ≤ nI 99999 := Int32.le_trans h7' h9
      have h7 := (nI_leI hm (by decide)).mp h8
      refine ⟨m, h7, e, h7', ?_⟩
      show nI k * 100000 + tV n b i = _
      rw [nI_k k hk, e, nI_add]
  · rw [if_neg c2, if_neg c2]
    exact ⟨rfl, fun z => absurd z i1n0⟩
end MMARK
