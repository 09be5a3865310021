/-! Row.add; the reader of asks. -/
section READ
variable {G : GG} {l : Launch} {d : Nat} {post : Option AVal → AS → Prop} {σ : AS} {kk nn : Nat}
/-- the array of row r, and its length -/
def rArr (r : Nat) : Nat := if r = 5 then 6 else r
def rLen : Nat → Nat
  | 0 => 1000
  | 1 => 1000
  | 2 => 2600
  | 3 => 2600
  | 4 => 6
  | _ => 40
theorem st_row (hS : St σ) : ∀ r, r < 6 → gR σ 8 0 r = some (20, rArr r) ∧ gN σ 20 (rArr r) = rLen r
  | 0, _ => ⟨St.get hS 8 0 0 20 0 (by decide), St.len hS 20 0 1000 (by decide)⟩
  | 1, _ => ⟨St.get hS 8 0 1 20 1 (by decide), St.len hS 20 1 1000 (by decide)⟩
  | 2, _ => ⟨St.get hS 8 0 2 20 2 (by decide), St.len hS 20 2 2600 (by decide)⟩
  | 3, _ => ⟨St.get hS 8 0 3 20 3 (by decide), St.len hS 20 3 2600 (by decide)⟩
  | 4, _ => ⟨St.get hS 8 0 4 20 4 (by decide), St.len hS 20 4 6 (by decide)⟩
  | 5, _ => ⟨St.get hS 8 0 5 20 6 (by decide), St.len hS 20 6 40 (by decide)⟩
  | r + 6, h => absurd h (by omega)
theorem rLen_le (r : Nat) : rLen r ≤ 2600 := by
  unfold rLen
  split <;> decide
theorem rArr_inj {r r' : Nat} (h : r < 6) (h' : r' < 6) (e : rArr r = rArr r') : r = r' := by
  unfold rArr at e
  split at e <;> split at e <;> omega
theorem RW.mk (hS : St σ) {r n : Nat} {b : Nat → Int32} (hr : r < 6) (h1 : gI σ 8 1 r = nI n) (h2 : n ≤ rLen r) (h3 : ∀ i, i < n → gA σ 20 (rArr r) i = b i) : RW σ r n b := by
  obtain ⟨k1, k2⟩ := st_row hS r hr
  have := rLen_le r
  exact ⟨rArr r, k1, h1, by omega, by omega, h3⟩
theorem RW.out (hS : St σ) {r n : Nat} {b : Nat → Int32} (hr : r < 6) (h : RW σ r n b) : gI σ 8 1 r = nI n ∧ n ≤ rLen r ∧ ∀ i, i < n → gA σ 20 (rArr r) i = b i := by
  obtain ⟨k1, k2⟩ := st_row hS r hr
  obtain ⟨a, h1, h2, h3, h4, h5⟩ := h
  rw [k1] at h1
  cases h1
  exact ⟨h2, by omega, h5⟩
/-- the number v was put behind row r's n -/
def RAdd (σ σ' : AS) (r n : Nat) (v : Int32) : Prop := sameK (fun c => c ≠ 8 ∧ c ≠ 20) σ σ' ∧ (∀ c, cnt σ' c = cnt σ c) ∧ (∀ c f i, gR σ' c f i = gR σ c f i) ∧ (∀ c i, gN σ' c i = gN σ c i) ∧ gI σ' 8 1 r = nI (n + 1) ∧ (∀ r', r' ≠ r → gI σ' 8 1 r' = gI σ 8 1 r') ∧ (∀ a j, gA σ' 20 a j = if a = rArr r ∧ j = n then v else gA σ 20 a j)
theorem RAdd.st {σ' : AS} {r n : Nat} {v : Int32} (h : RAdd σ σ' r n v) (hS : St σ) : St σ' := hS.of fun c _ => ⟨fun f i _ => h.2.2.1 c f i, fun i _ => h.2.2.2.1 c i, Nat.le_of_eq (h.2.1 c).symm⟩
theorem RAdd.self {σ' : AS} {r n : Nat} {v : Int32} {b : Nat → Int32} (h : RAdd σ σ' r n v) (hS : St σ) (hr : r < 6) (hn : n < rLen r) (k : RW σ r n b) : RW σ' r (n + 1) (fun i => if i = n then v else b i) := by
  obtain ⟨k1, k2, k3⟩ := k.out hS hr
  refine RW.mk (h.st hS) hr h.2.2.2.2.1 hn (fun i hi => ?_)
  rw [h.2.2.2.2.2.2]
  by_cases e : i = n
  · rw [if_pos ⟨rfl, e⟩, if_pos e]
  · rw [if_neg (fun q => e q.2), if_neg e]
    exact k3 i (by omega)
theorem RAdd.other {σ' : AS} {r n r' n' : Nat} {v : Int32} {b : Nat → Int32} (h : RAdd σ σ' r n v) (hS : St σ) (hr : r < 6) (hr' : r' < 6) (hne : r' ≠ r) (k : RW σ r' n' b) : RW σ' r' n' b := by
  obtain ⟨k1, k2, k3⟩ := k.out hS hr'
  refine RW.mk (h.st hS) hr' ((h.2.2.2.2.2.1 r' hne).trans k1) k2 (fun i hi => ?_)
  rw [h.2.2.2.2.2.2, if_neg (fun q => hne (rArr_inj hr' hr q.1))]
  exact k3 i hi
theorem c_radd {r n : Nat} {v : Int32} {b : Nat → Int32} (hS : St σ) (hr : r < 6) (hR : RW σ r n b) (hn : n < rLen r) (h : ∀ σ', RAdd σ σ' r n v → post none σ') : AMet G l M_X7_add d 0 0 [xR (some (8, r)), xI v] σ post := by
  obtain ⟨k1, k2, k3⟩ := hR.out hS hr
  obtain ⟨q1, q2⟩ := st_row hS r hr
  have hl := rLen_le r
  refine AMet.of rfl (Nat.le_of_ble_eq_true rfl) (vc_X7_add ?_)
  rw [k1, nI_clamp (by omega), nI_1]
  refine ⟨fun c => absurd c (nI_pos (by omega)), fun _ => ⟨rArr r, q1, fun c => ?_, fun _ => ⟨?_, ?_⟩⟩⟩
  · rw [q2] at c
    exact absurd ((nI_leI (by omega) (by omega)).mp c) (by omega)
  · rw [q2]
    exact vp_in_nI hn (by omega)
  · refine h _ ⟨fun c hc => (eqK_sA hc.2).tr (eqK_sI hc.1), fun _ => rfl, fun _ _ _ => rfl, fun _ _ => rfl, gI_self, fun r' h' => ?_, fun a j => ?_⟩
    · rw [gI_o (fun e => h' e.2.2)]
      rfl
    · show gA (sA σ 20 (rArr r) n v) 20 a j = _
      rw [gA_sA]
      by_cases e : a = rArr r ∧ j = n
      · rw [if_pos e, if_pos ⟨rfl, e.1, e.2⟩]
      · rw [if_neg e, if_neg (fun q => e q.2)]
/-- the word for a mark that stands here -/
def mkH (n : Nat) (b : Nat → Int32) (i : Nat) : Int32 := if isW n b i 5 = true then 0 else if isW n b i 6 = true then 1 else if isW n b i 7 = true then 2 else if isW n b i 8 = true then 3 else if isW n b i 9 = true then 4 else if isW n b i 10 = true then 6 else -1
theorem c_markHere {n i : Nat} {b : Nat → Int32} (hS : St σ) (hR : RW σ 0 n b) (hi : i ≤ n) (hT : Tok σ n b i) (h : post (some (xI (mkH n b i))) σ) : AMet G l M_X2_markHere (d + 5) 0 0 [xR (some (3, 0))] σ post := by
  have N : ∀ {x : Bool}, bI x = 0 → ¬ x = true := fun h e => bI_ne.mpr e h
  refine AMet.of rfl (Nat.le_of_ble_eq_true rfl) (vc_X2_markHere (d := d + 4) hS (c_isWord hS hR hi hT ⟨hS, fun c5 => c_isWord hS hR hi hT ⟨hS, fun c6 => c_isWord hS hR hi hT ⟨hS, fun c7 => c_isWord hS hR hi hT ⟨hS, fun c8 => c_isWord hS hR hi hT ⟨hS, fun c9 => c_isWord hS hR hi hT ⟨fun c10 => ?_, fun c10 => ?_⟩, fun c9 => ?_⟩, fun c8 => ?_⟩, fun c7 => ?_⟩, fun c6 => ?_⟩, fun c5 => ?_⟩))
  · rw [mkH, if_neg (N c5), if_neg (N c6), if_neg (N c7), if_neg (N c8), if_neg (N c9), if_neg (N c10)] at h
    exact h
  · rw [mkH, if_neg (N c5), if_neg (N c6), if_neg (N c7), if_neg (N c8), if_neg (N c9), if_pos (bI_ne.mp c10)] at h
    exact h
  · rw [mkH, if_neg (N c5), if_neg (N c6), if_neg (N c7), if_neg (N c8), if_pos (bI_ne.mp c9)] at h
    exact h
  · rw [mkH, if_neg (N c5), if_neg (N c6), if_neg (N c7), if_pos (bI_ne.mp c8)] at h
    exact h
  · rw [mkH, if_neg (N c5), if_neg (N c6), if_pos (bI_ne.mp c7)] at h
    exact h
  · rw [mkH, if_neg (N c5), if_pos (bI_ne.mp c6)] at h
    exact h
  · rw [mkH, if_pos (bI_ne.mp c5)] at h
    exact h
/-- what reading leaves alone: all but Tokens, the steps' row (1) and its array -/
def RF (σ σ' : AS) : Prop := sameK (fun c => c ≠ 8 ∧ c ≠ 10 ∧ c ≠ 20) σ σ' ∧ (∀ c, cnt σ' c = cnt σ c) ∧ (∀ c f i, gR σ' c f i = gR σ c f i) ∧ (∀ c i, gN σ' c i = gN σ c i) ∧ (∀ r', r' ≠ 1 → gI σ' 8 1 r' = gI σ 8 1 r') ∧ ∀ a j, a ≠ 1 → gA σ' 20 a j = gA σ 20 a j
theorem RF.rf : RF σ σ := ⟨sameK.rf, fun _ => rfl, fun _ _ _ => rfl, fun _ _ => rfl, fun _ _ => rfl, fun _ _ _ => rfl⟩
theorem RF.tr {σ1 σ2 : AS} (h : RF σ σ1) (k : RF σ1 σ2) : RF σ σ2 := ⟨h.1.tr k.1, fun c => (k.2.1 c).trans (h.2.1 c), fun c f i => (k.2.2.1 c f i).trans (h.2.2.1 c f i), fun c i => (k.2.2.2.1 c i).trans (h.2.2.2.1 c i), fun r hr => (k.2.2.2.2.1 r hr).trans (h.2.2.2.2.1 r hr), fun a j ha => (k.2.2.2.2.2 a j ha).trans (h.2.2.2.2.2 a j ha)⟩
theorem TF.rfr {σ' : AS} (h : TF σ σ') : RF σ σ' := by
  refine ⟨h.1.sub (fun c hc => hc.2.1), fun c => ?_, fun c f i => ?_, fun c i => ?_, fun r _ => (h.1 8 (by decide)).2.1 1 r, fun a j _ => (h.1 20 (by decide)).2.2.2.2.1 a j⟩
  · by_cases hc : c = 10
    · subst hc; exact h.2.1
    · exact (h.1 c hc).1
  · by_cases hc : c = 10
    · subst hc; exact h.2.2.1 f i
    · exact (h.1 c hc).2.2.1 f i
  · by_cases hc : c = 10
    · subst hc; exact h.2.2.2.1 i
    · exact (h.1 c hc).2.2.2.1 i
theorem RAdd.rfr {σ' : AS} {n : Nat} {v : Int32} (h : RAdd σ σ' 1 n v) : RF σ σ' := ⟨h.1.sub (fun c hc => ⟨hc.1, hc.2.2⟩), h.2.1, h.2.2.1, h.2.2.2.1, h.2.2.2.2.2.1, fun a j ha => by rw [h.2.2.2.2.2.2, if_neg (fun e => ha e.1)]⟩
theorem fail_rfr {k : Int32} : RF σ (FailS σ k) := ⟨fun c hc => (eqK_sI hc.2.1).tr (eqK_sI hc.2.1), fun _ => rfl, fun _ _ _ => rfl, fun _ _ => rfl, fun r _ => by unfold FailS; rw [gI_o (fun e => absurd e.1 (by decide)), gI_o (fun e => absurd e.1 (by decide))], fun _ _ _ => rfl⟩
theorem RF.st {σ' : AS} (h : RF σ σ') (hS : St σ) : St σ' := hS.of fun c _ => ⟨fun f i _ => h.2.2.1 c f i, fun i _ => h.2.2.2.1 c i, Nat.le_of_eq (h.2.1 c).symm⟩
theorem RF.rw {σ' : AS} {r n : Nat} {b : Nat → Int32} (h : RF σ σ') (hS : St σ) (hr : r < 6) (h1 : r ≠ 1) (k : RW σ r n b) : RW σ' r n b := by
  obtain ⟨k1, k2, k3⟩ := k.out hS hr
  refine RW.mk (h.st hS) hr ((h.2.2.2.2.1 r h1).trans k1) k2 (fun i hi => ?_)
  rw [h.2.2.2.2.2 _ _ (fun e => h1 (rArr_inj hr (by decide) e))]
  exact k3 i hi
def snoc (b : Nat → Int32) (m : Nat) (v : Int32) : Nat → Int32 := fun i => if i = m then v else b i
/-- what came of reading a part: fault, place; 0 and the token behind it -/
abbrev Out : Type := Int32 × Nat
def hiOf (k : Int32) : Int32 := if k = 1 then 15 else if k = 2 then 3 else if k = 3 then 19 else 99999
theorem c_highest {k : Int32} (h : post (some (xI (hiOf k))) σ) : AMet G l M_X1_highest d 0 0 [xI k] σ post := by
  refine AMet.of rfl (Nat.le_of_ble_eq_true rfl) (vc_X1_highest ⟨fun c => ?_, fun c => ?_, fun c => ?_, fun c => ?_⟩)
  · subst c; exact h
  · subst c; exact h
  · subst c; exact h
  · have a1 : ¬ k = 1 := fun e => by subst e; revert c; decide
    have a2 : ¬ k = 2 := fun e => by subst e; revert c; decide
    have a3 : ¬ k = 3 := fun e => by subst e; revert c; decide
    rw [hiOf, if_neg a1, if_neg a2, if_neg a3] at h
    exact h
/-- the number behind a mark of kind k -/
def rmN (n : Nat) (b : Nat → Int32) (i : Nat) (k : Int32) : Out × Int32 := if k = 0 then ((0, i), k * 100000 + 0) else if tK n b i = 3 ∧ tE n b i - tS n b i ≤ 5 then (if tV n b i < 0 ∨ hiOf k < tV n b i then ((2, tS n b i), 0) else ((0, tE n b i), k * 100000 + tV n b i)) else ((1, tS n b i), 0)
/-- steps' row: m steps, one more if all is well -/
def After (σ σ' : AS) (n : Nat) (b : Nat → Int32) (m : Nat) (bS : Nat → Int32) (o : Out × Int32) : Prop := RF σ σ' ∧ St σ' ∧ RW σ' 0 n b ∧ ((o.1.1 = 0 ∧ Tok σ' n b o.1.2 ∧ o.1.2 ≤ n ∧ RW σ' 1 (m + 1) (snoc bS m o.2) ∧ gI σ' 10 0 0 = gI σ 10 0 0 ∧ gI σ' 10 1 0 = gI σ 10 1 0) ∨ (¬ o.1.1 = 0 ∧ gI σ' 10 0 0 = o.1.1 ∧ gI σ' 10 1 0 = nI o.1.2))
theorem after_fail {n m i : Nat} {b bS : Nat → Int32} {k : Int32} (hk : ¬ k = 0) (hS : St σ) (hR : RW σ 0 n b) (hT : Tok σ n b i) : After σ (FailS σ k) n b m bS ((k, tS n b i), 0) :=
  ⟨fail_rfr, fail_rfr.st hS, fail_rfr.rw hS (by decide) (by decide) hR, Or.inr ⟨hk, by unfold FailS; rw [gI_o (by decide), gI_self], by unfold FailS; rw [gI_self]; exact hT.2.1⟩⟩
theorem after_add {n m i : Nat} {b bS : Nat → Int32} {v : Int32} {σ' : AS} (hS : St σ) (hR : RW σ 0 n b) (hi : i ≤ n) (hT : Tok σ n b i) (hR1 : RW σ 1 m bS) (hm : m < 1000) (A : RAdd σ σ' 1 m v) : After σ σ' n b m bS ((0, i), v) := by
  have k := (A.1 10 (by decide)).2.1
  exact ⟨A.rfr, A.st hS, A.other hS (by decide) (by decide) (by decide) hR, Or.inl ⟨rfl, ⟨(k 3 0).trans hT.1, (k 4 0).trans hT.2.1, (k 5 0).trans hT.2.2.1, (k 6 0).trans hT.2.2.2⟩, hi, A.self hS (by decide) hm hR1, k 0 0, k 1 0⟩⟩
theorem After.pre {σ1 σ' : AS} {n m : Nat} {b bS : Nat → Int32} {o : Out × Int32} (T : TF σ σ1) (h : After σ1 σ' n b m bS o) : After σ σ' n b m bS o := ⟨T.rfr.tr h.1, h.2.1, h.2.2.1, h.2.2.2.imp (fun q => ⟨q.1, q.2.1, q.2.2.1, q.2.2.2.1, q.2.2.2.2.1.trans T.2.2.2.2.1, q.2.2.2.2.2.trans T.2.2.2.2.2⟩) id⟩
theorem i1n0 : ¬ (1 : Int32) = 0 := by decide
theorem i2n0 : ¬ (2 : Int32) = 0 := by decide
theorem a_m91 {n m i : Nat} {b bS : Nat → Int32} {k : Int32} (hS : St σ) (hR : RW σ 0 n b) (hi : i ≤ n) (hT : Tok σ n b i) (hR1 : RW σ 1 m bS) (hm : m < 1000)
    (h1 : (rmN n b i k).1.1 = 0 → ∀ σ', After σ σ' n b m bS (rmN n b i k) → post (some (xI 1)) σ') (h0 : ¬ (rmN n b i k).1.1 = 0 → ∀ σ', After σ σ' n b m bS (rmN n b i k) → post (some (xI 0)) σ') : AW G l M_X2_readMark (d + 6) post σ kk nn 91 [some (xR (some (3, 0))), some (xI k), none] [] := by
  have hle := tE_le (b := b) hi
  refine vc_X2_readMark_91 (d := d + 5) hS ⟨fun c => c_highest (c_passNumber hS hR hi hT (fun hN => ?_) (fun hN hw => ?_) (fun hN w1 w2 σ' T k' => ?_)), fun c => ?_⟩
  · have e : rmN n b i k = ((1, tS n b i), 0) := by
      unfold rmN; unfold isN at hN; rw [if_neg c, if_neg hN]
    rw [e] at h0
    exact ⟨fail_rfr.st hS, fun q => absurd rfl q, fun _ => h0 i1n0 _ (after_fail (by decide) hS hR hT)⟩
  · have e : rmN n b i k = ((2, tS n b i), 0) := by
      unfold rmN; unfold isN at hN; rw [if_neg c, if_pos hN, if_pos hw]
    rw [e] at h0
    exact ⟨fail_rfr.st hS, fun q => absurd rfl q, fun _ => h0 i2n0 _ (after_fail (by decide) hS hR hT)⟩
  · have e : rmN n b i k = ((0, tE n b i), k * 100000 + tV n b i) := by
      unfold rmN; unfold isN at hN; rw [if_neg c, if_pos hN, if_neg (fun q => q.elim w1 w2)]
    rw [e] at h1
    refine ⟨T.st hS, fun _ => c_radd (T.st hS) (by decide) (T.rw hR1) hm (fun σ2 A => h1 rfl _ (After.pre T (after_add (T.st hS) (T.rw hR) hle.2 k' (T.rw hR1) hm A))), fun q => ?_⟩
    rw [q] at w1
    exact absurd (by decide) w1
  · have e : rmN n b i k = ((0, i), k * 100000 + 0) := by
      unfold rmN; rw [if_pos c]
    rw [e] at h1
    exact c_radd hS (by decide) hR1 hm (fun σ2 A => h1 rfl _ (after_add hS hR hi hT hR1 hm A))
/-- a mark at i, its kind k known -/
def rm (n : Nat) (b : Nat → Int32) (i : Nat) : Out × Int32 := if mkH n b i = -1 then ((1, tS n b i), 0) else if mkH n b i = 4 ∨ mkH n b i = 6 then (if isG n b (tE n b i) 60 = true then rmN n b (tE n b (tE n b i)) (mkH n b i) else if isG n b (tE n b i) 62 = true then rmN n b (tE n b (tE n b i)) (mkH n b i + 1) else ((1, tS n b (tE n b i)), 0)) else rmN n b (tE n b i) (mkH n b i)
theorem c_readMark {n m i : Nat} {b bS : Nat → Int32} (hS : St σ) (hR : RW σ 0 n b) (hi : i ≤ n) (hT : Tok σ n b i) (hR1 : RW σ 1 m bS) (hm : m < 1000)
    (h1 : (rm n b i).1.1 = 0 → ∀ σ', After σ σ' n b m bS (rm n b i) → post (some (xI 1)) σ') (h0 : ¬ (rm n b i).1.1 = 0 → ∀ σ', After σ σ' n b m bS (rm n b i) → post (some (xI 0)) σ') : AMet G l M_X2_readMark (d + 6) 0 0 [xR (some (3, 0))] σ post := by
  have hle := tE_le (b := b) hi
  have hle2 := tE_le (b := b) hle.2
  have sub : (mkH n b i = 4 ∨ mkH n b i = 6) → ¬ mkH n b i = -1 → ∀ σ3, TF σ σ3 → Tok σ3 n b (tE n b i) → AW G l M_X2_readMark (d + 6) post σ3 0 0 37 [some (xR (some (3, 0))), some (xI (mkH n b i)), none] [] := by
    intro hk hne σ3 T3 k3
    have S3 := T3.st hS
    have R3 := T3.rw hR
    have seventy : ∀ (v k' : Int32), (∀ σ4, TF σ σ4 → Tok σ4 n b (tE n b (tE n b i)) → AW G l M_X2_readMark (d + 6) post σ4 0 0 91 [some (xR (some (3, 0))), some (xI k'), none] []) → ((v = 0 ∧ k' = mkH n b i + 1) ∨ (¬ v = 0 ∧ k' = mkH n b i)) → AW G l M_X2_readMark (d + 6) post σ3 0 0 72 [some (xR (some (3, 0))), some (xI (mkH n b i)), some (xI v)] [] := by
      intro v k' hgo hv
      refine vc_X2_readMark_72 (d := d + 5) S3 (c_advance S3 R3 hle2.2 k3.2.2.1 (fun σ4 T4 k4 => ⟨fun c => ?_, fun c => ?_⟩))
      · rcases hv with ⟨-, rfl⟩ | ⟨q, -⟩
        · exact hgo σ4 (T3.tr T4) k4
        · exact absurd c q
      · rcases hv with ⟨q, -⟩ | ⟨-, rfl⟩
        · exact absurd q c
        · exact hgo σ4 (T3.tr T4) k4
    refine vc_X2_readMark_37 (d := d + 5) S3 (c_isSign S3 R3 hle.2 k3 ⟨S3, fun c => ?_, fun c => c_isSign S3 R3 hle.2 k3 ⟨S3, fun c2 => ?_, fun c2 => ?_⟩⟩)
    · have e : rm n b i = rmN n b (tE n b (tE n b i)) (mkH n b i) := by
        unfold rm; rw [if_neg hne, if_pos hk, if_pos (bI_ne.mp c)]
      rw [e] at h1 h0
      exact seventy _ _ (fun σ4 T4 k4 => a_m91 (T4.st hS) (T4.rw hR) hle2.2 k4 (T4.rw hR1) hm (fun q σ' A => h1 q σ' (After.pre T4 A)) (fun q σ' A => h0 q σ' (After.pre T4 A))) (Or.inr ⟨c, rfl⟩)
    · have e : rm n b i = rmN n b (tE n b (tE n b i)) (mkH n b i + 1) := by
        unfold rm; rw [if_neg hne, if_pos hk, if_neg (by rw [bI_eq.mp c]; decide), if_pos (bI_ne.mp c2)]
      rw [e] at h1 h0
      exact seventy _ _ (fun σ4 T4 k4 => a_m91 (T4.st hS) (T4.rw hR) hle2.2 k4 (T4.rw hR1) hm (fun q σ' A => h1 q σ' (After.pre T4 A)) (fun q σ' A => h0 q σ' (After.pre T4 A))) (Or.inl ⟨c, rfl⟩)
    · have e : rm n b i = ((1, tS n b (tE n b i)), 0) := by
        unfold rm; rw [if_neg hne, if_pos hk, if_neg (by rw [bI_eq.mp c]; decide), if_neg (by rw [bI_eq.mp c2]; decide)]
      rw [e] at h0
      exact c_fail ⟨by decide, h0 i1n0 _ (After.pre T3 (after_fail (by decide) S3 R3 k3))⟩
  refine AMet.of rfl (Nat.le_of_ble_eq_true rfl) (vc_X2_readMark (d := d + 5) (c_markHere hS hR hi hT ⟨hS, fun c => ?_, fun c => ?_⟩))
  · refine c_advance hS hR hle.2 hT.2.2.1 (fun σ3 T3 k3 => ⟨fun c4 => sub (Or.inl c4) c σ3 T3 k3, fun c4 => ⟨fun c6 => ?_, fun c6 => sub (Or.inr c6) c σ3 T3 k3⟩⟩)
    have e : rm n b i = rmN n b (tE n b i) (mkH n b i) := by
      unfold rm; rw [if_neg c, if_neg (fun q => q.elim c4 c6)]
    rw [e] at h1 h0
    exact a_m91 (T3.st hS) (T3.rw hR) hle.2 k3 (T3.rw hR1) hm (fun q σ' A => h1 q σ' (After.pre T3 A)) (fun q σ' A => h0 q σ' (After.pre T3 A))
  · have e : rm n b i = ((1, tS n b i), 0) := by
      unfold rm; rw [if_pos c]
    rw [e] at h0
    exact c_fail ⟨by decide, h0 i1n0 _ (after_fail (by decide) hS hR hT)⟩
theorem c_begin {n : Nat} {b : Nat → Int32} (hS : St σ) (hR : RW σ 0 n b) (h : ∀ σ', RF σ σ' → St σ' → RW σ' 0 n b → (∀ m bS, RW σ 1 m bS → RW σ' 1 m bS) → Tok σ' n b 0 → gI σ' 10 0 0 = 0 → gI σ' 10 1 0 = -1 → post none σ') : AMet G l M_X9_begin (d + 2) 0 0 [xR (some (10, 0))] σ post := by
  have F : RF σ (sI (sI (sI σ 10 0 0 0) 10 1 0 (-1)) 10 5 0 0) := ⟨fun c hc => ((eqK_sI hc.2.1).tr (eqK_sI hc.2.1)).tr (eqK_sI hc.2.1), fun _ => rfl, fun _ _ _ => rfl, fun _ _ => rfl, fun r _ => by rw [gI_o (fun e => absurd e.1 (by decide)), gI_o (fun e => absurd e.1 (by decide)), gI_o (fun e => absurd e.1 (by decide))], fun _ _ _ => rfl⟩
  have E : ∀ r m bS, RW σ r m bS → RW (sI (sI (sI σ 10 0 0 0) 10 1 0 (-1)) 10 5 0 0) r m bS := fun r m bS k => k.same (P := fun c => c ≠ 10) (fun c hc => ((eqK_sI hc).tr (eqK_sI hc)).tr (eqK_sI hc)) (by decide) (by decide)
  refine AMet.of rfl (Nat.le_of_ble_eq_true rfl) (vc_X9_begin (d := d + 1) (c_advance (F.st hS) (E 0 n b hR) (Nat.zero_le n) (by rw [gI_self, nI_0]) (fun σ' T k => ?_)))
  refine h σ' (F.tr T.rfr) (T.st (F.st hS)) (T.rw (E 0 n b hR)) (fun m bS q => T.rw (E 1 m bS q)) k ?_ ?_
  · rw [T.2.2.2.2.1, gI_o (by decide), gI_o (by decide), gI_self]
  · rw [T.2.2.2.2.2, gI_o (by decide), gI_self]
theorem c_atEnd {n i : Nat} {b : Nat → Int32} (hT : Tok σ n b i) (h0 : ¬ tK n b i = 0 → post (some (xI 0)) σ) (h1 : tK n b i = 0 → post (some (xI 1)) σ) : AMet G l M_X9_atEnd d 0 0 [xR (some (10, 0))] σ post := by
  refine AMet.of rfl (Nat.le_of_ble_eq_true rfl) (vc_X9_atEnd ⟨fun c => ?_, fun c => ?_⟩)
  · rw [hT.1] at c; exact h0 c
  · rw [hT.1] at c; exact h1 c
/-- a word w and a number behind it: fault and place, or the token behind and the number -/
def wN (n : Nat) (b : Nat → Int32) (i w : Nat) (lo hi : Int32) : Out × Int32 := if isW n b i w = true then (if tK n b (tE n b i) = 3 ∧ tE n b (tE n b i) - tS n b (tE n b i) ≤ 5 then (if tV n b (tE n b i) < lo ∨ hi < tV n b (tE n b i) then ((2, tS n b (tE n b i)), -1) else ((0, tE n b (tE n b i)), tV n b (tE n b i))) else ((1, tS n b (tE n b i)), -1)) else ((1, tS n b i), -1)
/-- the state behind a part that makes no step -/
def Pass (σ σ' : AS) (n : Nat) (b : Nat → Int32) (o : Out × Int32) : Prop := sameK (fun c => c ≠ 10) σ σ' ∧ RF σ σ' ∧ St σ' ∧ RW σ' 0 n b ∧ ((o.1.1 = 0 ∧ Tok σ' n b o.1.2 ∧ o.1.2 ≤ n ∧ gI σ' 10 0 0 = gI σ 10 0 0 ∧ gI σ' 10 1 0 = gI σ 10 1 0) ∨ (¬ o.1.1 = 0 ∧ gI σ' 10 0 0 = o.1.1 ∧ gI σ' 10 1 0 = nI o.1.2))
theorem pass_fail {n i : Nat} {b : Nat → Int32} {k v : Int32} (hk : ¬ k = 0) (hS : St σ) (hR : RW σ 0 n b) (hT : Tok σ n b i) : Pass σ (FailS σ k) n b ((k, tS n b i), v) :=
  ⟨fun c hc => (eqK_sI hc).tr (eqK_sI hc), fail_rfr, fail_rfr.st hS, fail_rfr.rw hS (by decide) (by decide) hR, Or.inr ⟨hk, by unfold FailS; rw [gI_o (by decide), gI_self], by unfold FailS; rw [gI_self]; exact hT.2.1⟩⟩
theorem Pass.pre {σ1 σ' : AS} {n : Nat} {b : Nat → Int32} {o : Out × Int32} (T : TF σ σ1) (h : Pass σ1 σ' n b o) : Pass σ σ' n b o := ⟨T.1.tr h.1, T.rfr.tr h.2.1, h.2.2.1, h.2.2.2.1, h.2.2.2.2.imp (fun q => ⟨q.1, q.2.1, q.2.2.1, q.2.2.2.1.trans T.2.2.2.2.1, q.2.2.2.2.trans T.2.2.2.2.2⟩) id⟩
theorem pass_ok {σ' : AS} {n i : Nat} {b : Nat → Int32} {v : Int32} (hS : St σ) (hR : RW σ 0 n b) (hi : i ≤ n) (T : TF σ σ') (k : Tok σ' n b i) : Pass σ σ' n b ((0, i), v) := ⟨T.1, T.rfr, T.st hS, T.rw hR, Or.inl ⟨rfl, k, hi, T.2.2.2.2.1, T.2.2.2.2.2⟩⟩
theorem c_wN {n i w : Nat} {b : Nat → Int32} {lo hi : Int32} (hS : St σ) (hR : RW σ 0 n b) (hin : i ≤ n) (hT : Tok σ n b i) (h : ∀ σ', Pass σ σ' n b (wN n b i w lo hi) → post (some (xI (wN n b i w lo hi).2)) σ') : AMet G l M_X9_passNumberAfter (d + 6) 0 0 [xR (some (10, 0)), xR (some (30, w)), xI lo, xI hi] σ post := by
  have hle := tE_le (b := b) hin
  have hle2 := tE_le (b := b) hle.2
  refine AMet.of rfl (Nat.le_of_ble_eq_true rfl) (vc_X9_passNumberAfter (d := d + 5) (c_passWord hS hR hin hT (fun hw => ?_) (fun hw σ1 T1 k1 => ?_)))
  · have e : wN n b i w lo hi = ((1, tS n b i), -1) := by unfold wN; rw [if_neg (by rw [hw]; decide)]
    rw [e] at h
    exact ⟨fun _ => h _ (pass_fail i1n0 hS hR hT), fun c => absurd rfl c⟩
  · refine ⟨fun c => absurd c (by decide), fun _ => c_passNumber (T1.st hS) (T1.rw hR) hle.2 k1 (fun hN => ?_) (fun hN hv => ?_) (fun hN v1 v2 σ2 T2 k2 => ?_)⟩
    · unfold isN at hN
      have e : wN n b i w lo hi = ((1, tS n b (tE n b i)), -1) := by unfold wN; rw [if_pos hw, if_neg hN]
      rw [e] at h
      exact h _ (Pass.pre T1 (pass_fail i1n0 (T1.st hS) (T1.rw hR) k1))
    · unfold isN at hN
      have e : wN n b i w lo hi = ((2, tS n b (tE n b i)), -1) := by unfold wN; rw [if_pos hw, if_pos hN, if_pos hv]
      rw [e] at h
      exact h _ (Pass.pre T1 (pass_fail i2n0 (T1.st hS) (T1.rw hR) k1))
    · unfold isN at hN
      have e : wN n b i w lo hi = ((0, tE n b (tE n b i)), tV n b (tE n b i)) := by unfold wN; rw [if_pos hw, if_pos hN, if_neg (fun q => q.elim v1 v2)]
      rw [e] at h
      exact h _ (Pass.pre T1 (pass_ok (T1.st hS) (T1.rw hR) hle2.2 T2 k2))
end READ
