/-! The model's frames; reading goes on, or has failed. -/
section MZONE
variable {G : GG} {l : Launch} {d : Nat} {post : Option AVal → AS → Prop} {σ : AS} {kk nn : Nat}
/-- of the model's: fields P, arrays Q may change, and (R) what row is -/
def MZ (R : Prop) (P : Nat → Prop) (Q : Nat → Nat → Prop) (σ σ' : AS) : Prop := sameK (fun c => c ≠ 13 ∧ c ≠ 21 ∧ c ≠ 22 ∧ c ≠ 26) σ σ' ∧ (∀ c, cnt σ' c = cnt σ c) ∧ (∀ c i, gN σ' c i = gN σ c i) ∧ (∀ c f i, ¬ (R ∧ c = 13 ∧ f = 18) → gR σ' c f i = gR σ c f i) ∧ (∀ f i, ¬ P f → gI σ' 13 f i = gI σ 13 f i) ∧ ∀ c a j, c ≠ 13 → ¬ Q c a → gA σ' c a j = gA σ c a j
variable {R : Prop} {P : Nat → Prop} {Q : Nat → Nat → Prop}
theorem MZ.rf : MZ R P Q σ σ := ⟨sameK.rf, fun _ => rfl, fun _ _ => rfl, fun _ _ _ _ => rfl, fun _ _ _ => rfl, fun _ _ _ _ _ => rfl⟩
theorem MZ.tr {σ1 σ2 : AS} (h : MZ R P Q σ σ1) (k : MZ R P Q σ1 σ2) : MZ R P Q σ σ2 := ⟨h.1.tr k.1, fun c => (k.2.1 c).trans (h.2.1 c), fun c i => (k.2.2.1 c i).trans (h.2.2.1 c i), fun c f i z => (k.2.2.2.1 c f i z).trans (h.2.2.2.1 c f i z), fun f i z => (k.2.2.2.2.1 f i z).trans (h.2.2.2.2.1 f i z), fun c a j y z => (k.2.2.2.2.2 c a j y z).trans (h.2.2.2.2.2 c a j y z)⟩
theorem MZ.mono {R' : Prop} {P' : Nat → Prop} {Q' : Nat → Nat → Prop} {σ1 : AS} (h : MZ R P Q σ σ1) (r : R → R') (p : ∀ f, P f → P' f) (q : ∀ c a, Q c a → Q' c a) : MZ R' P' Q' σ σ1 := ⟨h.1, h.2.1, h.2.2.1, fun c f i z => h.2.2.2.1 c f i (fun e => z ⟨r e.1, e.2⟩), fun f i z => h.2.2.2.2.1 f i (fun e => z (p f e)), fun c a j y z => h.2.2.2.2.2 c a j y (fun e => z (q c a e))⟩
theorem MZ.ofQ {σ1 : AS} (h : MX σ σ1) (p : ∀ f, 20 ≤ f → f ≤ 25 → P f) : MZ R P Q σ σ1 := ⟨h.1.sub (fun c hc => hc.1), fun c => by
    by_cases e : c = 13
    · subst e; exact h.2.1
    · exact (h.1 c e).1, fun c i => by
    by_cases e : c = 13
    · subst e; exact h.2.2.2.1 i
    · exact (h.1 c e).2.2.2.1 i, fun c f i _ => by
    by_cases e : c = 13
    · subst e; exact h.2.2.1 f i
    · exact (h.1 c e).2.2.1 f i, fun f i z => h.2.2.2.2 f i (fun e => z (p f e.1 e.2)), fun c a j e _ => (h.1 c e).2.2.2.2.1 a j⟩
theorem MZ.set {σ1 : AS} {f i : Nat} {v : Int32} (h : MZ R P Q σ σ1) (p : P f) : MZ R P Q σ (sI σ1 13 f i v) := h.tr ⟨fun c hc => eqK_sI hc.1, fun _ => rfl, fun _ _ => rfl, fun _ _ _ _ => rfl, fun g i z => by rw [gI_sI, if_neg (fun e => z (by rw [e.2.1]; exact p))], fun _ _ _ _ _ => rfl⟩
theorem MZ.setA {σ1 : AS} {c a i : Nat} {v : Int32} (h : MZ R P Q σ σ1) (hc : c = 21 ∨ c = 22 ∨ c = 26) (p : Q c a) : MZ R P Q σ (sA σ1 c a i v) := h.tr ⟨fun c' hc' => eqK_sA (fun e => by subst e; rcases hc with rfl | rfl | rfl <;> simp at hc'), fun _ => rfl, fun _ _ => rfl, fun _ _ _ _ => rfl, fun _ _ _ => rfl, fun c' a' j _ z => by rw [gA_sA, if_neg (fun e => z (by rw [e.1, e.2.1]; exact p))]⟩
theorem MZ.st {σ1 : AS} (h : MZ R P Q σ σ1) (hS : St σ) : St σ1 := by
  have e : (stTab.all fun t => !(t.1 == 13 && t.2.1 == 18)) = true := by decide +kernel
  refine ⟨fun t ht => ?_, fun t ht => ?_⟩
  · have q := List.all_eq_true.mp e t ht
    refine ⟨(h.2.2.2.1 _ _ _ (fun z => ?_)).trans (hS.1 t ht).1, by rw [h.2.1]; exact (hS.1 t ht).2⟩
    rw [z.2.1, z.2.2] at q
    exact absurd q (by decide)
  · exact ⟨(h.2.2.1 _ _).trans (hS.2 t ht).1, by rw [h.2.1]; exact (hS.2 t ht).2⟩
theorem MZ.mb {σ1 : AS} {j n : Nat} {b : Nat → Int32} (h : MZ False P Q σ σ1) (p : ¬ P 19) (q : ¬ Q 22 j) (k : MB σ j n b) : MB σ1 j n b := ⟨(h.2.2.2.1 13 18 0 (fun e => e.1)).trans k.1, (h.2.2.2.2.1 19 0 p).trans k.2.1, k.2.2.1, (h.2.2.1 22 j).trans k.2.2.2.1, fun i hi => (h.2.2.2.2.2 22 j i (by decide) q).trans (k.2.2.2.2.1 i hi), k.2.2.2.2.2⟩
theorem MTok.keep {σ1 : AS} {n i : Nat} {b : Nat → Int32} (T : MTok σ n b i) (h : ∀ f, 20 ≤ f → f ≤ 23 → gI σ1 13 f 0 = gI σ 13 f 0) : MTok σ1 n b i := ⟨(h 21 (by decide) (by decide)).trans T.1, (h 20 (by decide) (by decide)).trans T.2.1, (h 22 (by decide) (by decide)).trans T.2.2.1, fun z => (h 23 (by decide) (by decide)).trans (T.2.2.2.1 z), fun z => (h 23 (by decide) (by decide)).trans (T.2.2.2.2 z)⟩
/-- reading stands at a token, or has failed -/
def RS (σ' : AS) (n : Nat) (b : Nat → Int32) (o : Out) : Prop := (o.1 = 0 ∧ MTok σ' n b o.2 ∧ o.2 ≤ n ∧ gI σ' 13 24 0 = 0) ∨ (¬ o.1 = 0 ∧ gI σ' 13 24 0 = o.1 ∧ gI σ' 13 25 0 = nI o.2)
theorem RS.ok {n : Nat} {b : Nat → Int32} {o : Out} (h : RS σ n b o) (z : gI σ 13 24 0 = 0) : o.1 = 0 ∧ MTok σ n b o.2 ∧ o.2 ≤ n := by
  rcases h with h | h
  · exact ⟨h.1, h.2.1, h.2.2.1⟩
  · exact absurd (h.2.1.symm.trans z) h.1
theorem RS.no {n : Nat} {b : Nat → Int32} {o : Out} (h : RS σ n b o) (z : ¬ gI σ 13 24 0 = 0) : ¬ o.1 = 0 ∧ gI σ 13 24 0 = o.1 ∧ gI σ 13 25 0 = nI o.2 := by
  rcases h with h | h
  · exact absurd h.2.2.2 z
  · exact h
theorem RS.keep {σ1 : AS} {n : Nat} {b : Nat → Int32} {o : Out} (h : RS σ n b o) (k : ∀ f, 20 ≤ f → f ≤ 25 → gI σ1 13 f 0 = gI σ 13 f 0) : RS σ1 n b o := by
  rcases h with h | h
  · exact Or.inl ⟨h.1, h.2.1.keep (fun f a c => k f a (by omega)), h.2.2.1, (k 24 (by decide) (by decide)).trans h.2.2.2⟩
  · exact Or.inr ⟨h.1, (k 24 (by decide) (by decide)).trans h.2.1, (k 25 (by decide) (by decide)).trans h.2.2⟩
theorem RS.fl {n i : Nat} {b : Nat → Int32} {k : Int32} (hk : ¬ k = 0) (T : MTok σ n b i) : RS (MFl σ k) n b (k, tS n b i) := Or.inr ⟨hk, by unfold MFl; rw [gI_o (by decide), gI_self], by unfold MFl; rw [gI_self]; exact T.1⟩
def pw (n : Nat) (b : Nat → Int32) (o : Out) (w : Nat) : Out := if o.1 = 0 then (if isW n b o.2 w = true then (0, tE n b o.2) else (1, tS n b o.2)) else o
def pg (n : Nat) (b : Nat → Int32) (o : Out) (x : Int32) : Out := if o.1 = 0 then (if isG n b o.2 x = true then (0, tE n b o.2) else (1, tS n b o.2)) else o
def pn (n : Nat) (b : Nat → Int32) (o : Out) (lo hi : Int32) : Out × Int32 := if o.1 = 0 then (if (nN n b o.2 lo hi).1.1 = 0 then nN n b o.2 lo hi else ((nN n b o.2 lo hi).1, 0)) else (o, 0)
def pe (n : Nat) (b : Nat → Int32) (o : Out) : Out := if o.1 = 0 then (rdE n b o.2).1 else o
theorem z_wantsW {j n w : Nat} {b : Nat → Int32} {o : Out} (hB : MB σ j n b) (hR : RS σ n b o) (h : ∀ σ', MX σ σ' → RS σ' n b (pw n b o w) → post none σ') : AMet G l M_X12_wants_ (d + 5) 0 0 [xR (some (13, 0)), xR (some (30, w))] σ post := by
  unfold pw at h
  rcases hR with ⟨z, T, hj, f0⟩ | ⟨z, f1, f2⟩
  · rw [if_pos z] at h
    refine m_wantsW hB hj T f0 (fun c => ?_) (fun c σ' M T' => ?_)
    · rw [if_neg (by rw [c]; decide)] at h
      exact h _ MX.fl (RS.fl i1n0 T)
    · rw [if_pos c] at h
      exact h _ M.mq (Or.inl ⟨rfl, T', (tE_le hj).2, (M.2.2.2.2 24 0 (by omega)).trans f0⟩)
  · rw [if_neg z] at h
    exact m_wantsWS (by rw [f1]; exact z) (h _ MX.rf (Or.inr ⟨z, f1, f2⟩))
theorem z_wants {j n x : Nat} {b : Nat → Int32} {o : Out} (hx : x = 40 ∨ x = 41 ∨ x = 58 ∨ x = 59 ∨ x = 60 ∨ x = 62) (hB : MB σ j n b) (hR : RS σ n b o) (h : ∀ σ', MX σ σ' → RS σ' n b (pg n b o (nI x)) → post none σ') : AMet G l M_X12_wants (d + 2) 0 0 [xR (some (13, 0)), xI (nI x)] σ post := by
  unfold pg at h
  rcases hR with ⟨z, T, hj, f0⟩ | ⟨z, f1, f2⟩
  · rw [if_pos z] at h
    refine m_wants hB hj T hx f0 (fun c => ?_) (fun c σ' M T' => ?_)
    · rw [if_neg (by rw [c]; decide)] at h
      exact h _ MX.fl (RS.fl i1n0 T)
    · rw [if_pos c] at h
      exact h _ M.mq (Or.inl ⟨rfl, T', (tE_le hj).2, (M.2.2.2.2 24 0 (by omega)).trans f0⟩)
  · rw [if_neg z] at h
    exact m_wantsS (by rw [f1]; exact z) (h _ MX.rf (Or.inr ⟨z, f1, f2⟩))
theorem z_number {j n : Nat} {b : Nat → Int32} {lo hi : Int32} {o : Out} (hlo : ¬ lo < 0) (hB : MB σ j n b) (hR : RS σ n b o) (h : ∀ σ', MX σ σ' → RS σ' n b (pn n b o lo hi).1 → post (some (xI (pn n b o lo hi).2)) σ') : AMet G l M_X12_number (d + 2) 0 0 [xR (some (13, 0)), xI lo, xI hi] σ post := by
  unfold pn at h
  rcases hR with ⟨z, T, hj, f0⟩ | ⟨z, f1, f2⟩
  · rw [if_pos z] at h
    refine m_number hB hj T f0 (fun c e => ?_) (fun c σ' M T' => ?_)
    · rw [if_neg c] at h
      refine h _ MX.fl ?_
      have q := RS.fl (σ := σ) c T
      rw [← e] at q
      exact q
    · rw [if_pos c] at h
      refine h _ M.mq (Or.inl ⟨c, T', ?_, (M.2.2.2.2 24 0 (by omega)).trans f0⟩)
      rcases nN_cases (b := b) (hi := hi) hj hlo with q | q
      · exact q.2.2.2.1
      · exact absurd c q.1
  · rw [if_neg z] at h
    exact m_numberS (by rw [f1]; exact z) (h _ MX.rf (Or.inr ⟨z, f1, f2⟩))
theorem z_either {j n : Nat} {b : Nat → Int32} {o : Out} (hS : St σ) (hB : MB σ j n b) (hR : RS σ n b o) (z : o.1 = 0) (h27 : ¬ gI σ 13 27 0 = 0) (h : ∀ σ' V, MX σ σ' → RS σ' n b (pe n b o) → post (some (xI (bI V))) σ') : AMet G l M_X12_either (d + 31) 0 0 [xR (some (13, 0)), xI 0] σ post := by
  unfold pe at h
  rw [if_pos z] at h
  rcases hR with ⟨_, T, hj, f0⟩ | ⟨z', _⟩
  · refine m_either (rdg := true) (g := fun _ => 0) hj hS hB T f0 (Or.inl ⟨rfl, h27⟩) (fun σ' V A => h σ' V A.1 ?_)
    rcases A.2 with q | q
    · exact Or.inl ⟨q.1, q.2.1, ((rd_ok n b _).2 0 _ false false hj q.1).2, q.2.2.1⟩
    · exact Or.inr q
  · exact absurd z z'
theorem wN_pn {n i w : Nat} {b : Nat → Int32} {lo hi : Int32} : (pn n b (pw n b (0, i) w) lo hi).1 = (wN n b i w lo hi).1 ∧ ((wN n b i w lo hi).1.1 = 0 → (pn n b (pw n b (0, i) w) lo hi).2 = (wN n b i w lo hi).2) := by
  unfold pn pw wN
  rw [if_pos rfl]
  by_cases c : isW n b i w = true
  · rw [if_pos c, if_pos c, if_pos rfl]
    unfold nN
    dsimp only
    by_cases c2 : tK n b (tE n b i) = 3 ∧ tE n b (tE n b i) - tS n b (tE n b i) ≤ 5
    · rw [if_pos c2]
      by_cases c3 : tV n b (tE n b i) < lo ∨ hi < tV n b (tE n b i)
      · rw [if_pos c3, if_neg i2n0]
        exact ⟨rfl, fun q => absurd q i2n0⟩
      · rw [if_neg c3, if_pos rfl]
        exact ⟨rfl, fun _ => rfl⟩
    · rw [if_neg c2, if_neg i1n0]
      exact ⟨rfl, fun q => absurd q i1n0⟩
  · rw [if_neg c, if_neg c, if_neg i1n0]
    exact ⟨rfl, fun q => absurd q i1n0⟩
theorem pw_bad {n w : Nat} {b : Nat → Int32} {o : Out} (h : ¬ o.1 = 0) : pw n b o w = o := if_neg h
theorem pn_bad {n : Nat} {b : Nat → Int32} {o : Out} {lo hi : Int32} (h : ¬ o.1 = 0) : pn n b o lo hi = (o, 0) := if_neg h
theorem o_eta {o : Out} (h : o.1 = 0) : o = (0, o.2) := Prod.ext h rfl
end MZONE
