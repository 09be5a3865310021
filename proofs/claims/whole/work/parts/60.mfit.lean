/-! The model: who fits, who can be in an ask. -/
section MFIT
variable {G : GG} {l : Launch} {d : Nat} {post : Option AVal → AS → Prop} {σ : AS} {kk nn : Nat}
def PFm : Nat → Prop := fun f => 19 ≤ f ∧ f ≤ 28 ∧ f ≠ 26
def QN : Nat → Nat → Prop := fun _ _ => False
/-- ask a stands in the model's text, what is wanted from place i on -/
def TxtA (σ : AS) (n : Nat) (b : Nat → Int32) (a i : Nat) : Prop := gI σ 13 31 0 = nI n ∧ n ≤ 1000 ∧ (∀ i, i < n → gA σ 22 1 i = sgb (b i)) ∧ (∀ i, i < n → ∃ m, m < 256 ∧ b i = nI m) ∧ i ≤ n ∧ gA σ 26 14 a = nI i
/-- person p of the model has the fields g, so far as what is wanted speaks of them; F facts -/
def PerM (σ : AS) (p F : Nat) (g : Nat → Int32) : Prop := gI σ 13 12 0 = nI F ∧ F ≤ 2600 ∧ gA σ 26 0 p = g 1 ∧ gA σ 26 1 p = g 2 ∧ gA σ 26 2 p = g 3 ∧ gA σ 26 3 p = g 4 ∧ ∀ v, v < 20 → ((0 < timN (fun i => gA σ 26 8 i) (fun i => gA σ 26 9 i) (nI p) (nI v) F) ↔ jb (g 9) (nI v) = true)
theorem PerM.keep {R : Prop} {P : Nat → Prop} {Q : Nat → Nat → Prop} {σ1 : AS} {p F : Nat} {g : Nat → Int32} (h : PerM σ p F g) (Z : MZ R P Q σ σ1) (hp : ¬ P 12) (hq : ∀ a, (a ≤ 3 ∨ a = 8 ∨ a = 9) → ¬ Q 26 a) : PerM σ1 p F g := by
  obtain ⟨h1, h2, h3, h4, h5, h6, h7⟩ := h
  have e : ∀ a j, (a ≤ 3 ∨ a = 8 ∨ a = 9) → gA σ1 26 a j = gA σ 26 a j := fun a j ha => Z.2.2.2.2.2 26 a j (by decide) (hq a ha)
  refine ⟨(Z.2.2.2.2.1 12 0 hp).trans h1, h2, (e 0 p (by omega)).trans h3, (e 1 p (by omega)).trans h4, (e 2 p (by omega)).trans h5, (e 3 p (by omega)).trans h6, fun v hv => ?_⟩
  have e1 : (fun i => gA σ1 26 8 i) = (fun i => gA σ 26 8 i) := funext (fun i => e 8 i (by omega))
  have e2 : (fun i => gA σ1 26 9 i) = (fun i => gA σ 26 9 i) := funext (fun i => e 9 i (by omega))
  rw [e1, e2]; exact h7 v hv
theorem TxtA.keep {R : Prop} {P : Nat → Prop} {Q : Nat → Nat → Prop} {σ1 : AS} {n a i : Nat} {b : Nat → Int32} (h : TxtA σ n b a i) (Z : MZ R P Q σ σ1) (hp : ¬ P 31) (hq : ¬ Q 26 14) (hq2 : ¬ Q 22 1) : TxtA σ1 n b a i := ⟨(Z.2.2.2.2.1 31 0 hp).trans h.1, h.2.1, fun i hi => (Z.2.2.2.2.2 22 1 i (by decide) hq2).trans (h.2.2.1 i hi), h.2.2.2.1, h.2.2.2.2.1, (Z.2.2.2.2.2 26 14 a (by decide) hq).trans h.2.2.2.2.2⟩
theorem m_doesFit {n a i p F : Nat} {b : Nat → Int32} {g : Nat → Int32} (hS : St σ) (ha : a < 6) (hp : p < 40) (hX : TxtA σ n b a i) (hM : PerM σ p F g) (hr : (rdE n b i).1.1 = 0) (h : ∀ σ', MZ True PFm QN σ σ' → post (some (xI (bI (valE g (rdE n b i).2)))) σ') : AMet G l M_X12_doesFit (d + 32) 0 0 [xR (some (13, 0)), xI (nI p), xI (nI a)] σ post := by
  obtain ⟨x1, x2, x3, x4, x5, x6⟩ := hX
  have lT : gN σ 22 1 = 1000 := St.len hS 22 1 1000 (by decide)
  have Z0 : MZ True PFm QN σ (sI (sI (sI σ 13 24 0 0) 13 27 0 0) 13 28 0 (nI p)) := ((MZ.rf.set ⟨by decide, by decide, by decide⟩).set ⟨by decide, by decide, by decide⟩).set ⟨by decide, by decide, by decide⟩
  refine AMet.of rfl (Nat.le_of_ble_eq_true rfl) (vc_X12_doesFit (d := d + 31) hS ⟨vp_in_nI ha (by decide), ?_⟩)
  have e14 : gA (sI (sI (sI σ 13 24 0 0) 13 27 0 0) 13 28 0 (nI p)) 26 14 (nI a).toNatClampNeg = nI i := by rw [nI_clamp (by omega)]; exact x6
  rw [e14]
  refine m_starts (d := d + 29) (b := b) (R := True) (P := PFm) (Q := QN) x2 x5 x1 lT x3 x4 trivial (fun f y z => ⟨y, by omega, by omega⟩) (by rw [gI_o (by decide), gI_o (by decide), gI_self]) (fun σ1 Z1 g1 a1 B1 T1 z1 => ?_)
  have Z2 := Z0.tr Z1
  have M1 := hM.keep Z2 (fun q => by have := q.1; omega) (fun _ _ q => q)
  obtain ⟨m1, m2, m3, m4, m5, m6, m7⟩ := M1
  refine m_either (rdg := false) (g := g) x5 (Z2.st hS) B1 T1 z1 (Or.inr ⟨rfl, ?_, p, F, hp, ?_, m1, m2, m3, m4, m5, m6, m7⟩) (fun σ2 V A => ⟨vb, ?_⟩)
  · rw [g1 27 0 (by omega), gI_o (by decide), gI_self]
  · rw [g1 28 0 (by omega), gI_self]
  · rcases A.2 with q | q
    · have e : V = valE g (rdE n b i).2 := q.2.2.2.val
      rw [e]
      exact h σ2 (Z2.tr (MZ.ofQ A.1 (fun f y z => ⟨by omega, by omega, by omega⟩)))
    · exact absurd hr q.1
/-- whether p can be in ask a, in the model -/
def canM (σ : AS) (g : Nat → Int32) (s : List Int32) (p a : Nat) : Bool := if gA σ 21 0 p = 0 then (if 1440 * gI σ 13 2 0 + gA σ 26 11 a < gA σ 26 6 p then false else valE g s) else false
theorem m_canBe {n a i p F : Nat} {b : Nat → Int32} {g : Nat → Int32} (hS : St σ) (ha : a < 6) (hp : p < 40) (hX : TxtA σ n b a i) (hM : PerM σ p F g) (hr : (rdE n b i).1.1 = 0) (h : ∀ σ', MZ True PFm QN σ σ' → post (some (xI (bI (canM σ g (rdE n b i).2 p a)))) σ') : AMet G l M_X12_canBe (d + 33) 0 0 [xR (some (13, 0)), xI (nI p), xI (nI a)] σ post := by
  have vp := vp_in_nI hp (show 40 < 2 ^ 31 by decide)
  refine AMet.of rfl (Nat.le_of_ble_eq_true rfl) (vc_X12_canBe (d := d + 32) hS ?_)
  rw [nI_clamp (by omega), nI_clamp (by omega)]
  refine ⟨vp_in_nI hp (by decide), fun c => ?_, fun c => ⟨vp_in_nI hp (by decide), vp_in_nI ha (by decide), fun c2 => ?_, fun c2 => m_doesFit hS ha hp hX hM hr (fun σ' Z => ?_)⟩⟩
  · have e : canM σ g (rdE n b i).2 p a = false := by unfold canM; rw [if_neg c]
    rw [e] at h
    exact h σ MZ.rf
  · have e : canM σ g (rdE n b i).2 p a = false := by unfold canM; rw [if_pos c, if_pos c2]
    rw [e] at h
    exact h σ MZ.rf
  · have e : canM σ g (rdE n b i).2 p a = valE g (rdE n b i).2 := by unfold canM; rw [if_pos c, if_neg c2]
    rw [e] at h
    refine ⟨fun q => ?_, fun q => ?_⟩
    · have w := bI_eq.mp q
      rw [w] at h
      exact h σ' Z
    · have w := bI_ne.mp q
      rw [w] at h
      exact h σ' Z
theorem m_isPerson {N : Nat} {a : Int32} (hN : N ≤ 40) (h1 : gI σ 13 1 0 = nI N) (h0 : ¬ (∃ p, p < N ∧ a = nI p) → post (some (xI 0)) σ) (hp : ∀ p, p < N → a = nI p → post (some (xI 1)) σ) : AMet G l M_X12_isPerson d 0 0 [xR (some (13, 0)), xI a] σ post := by
  refine AMet.of rfl (Nat.le_of_ble_eq_true rfl) (vc_X12_isPerson ⟨fun c => h0 ?_, fun c => ⟨fun c2 => h0 ?_, fun c2 => ?_⟩⟩)
  · rintro ⟨p, hp, rfl⟩
    exact absurd c (nI_pos (by omega))
  · rintro ⟨p, hp, rfl⟩
    rw [h1] at c2
    exact absurd ((nI_leI (by omega) (by omega)).mp c2) (by omega)
  · obtain ⟨p, hp', e⟩ := nI_of c
    rw [h1, e] at c2
    refine hp p ?_ e
    rcases Nat.lt_or_ge p N with q | q
    · exact q
    · exact absurd (nI_le q hp') c2
theorem m_isAsk {K : Nat} {a : Int32} (hK : K ≤ 6) (h1 : gI σ 13 29 0 = nI K) (h0 : ¬ (∃ p, p < K ∧ a = nI p) → post (some (xI 0)) σ) (hp : ∀ p, p < K → a = nI p → post (some (xI 1)) σ) : AMet G l M_X12_isAsk d 0 0 [xR (some (13, 0)), xI a] σ post := by
  refine AMet.of rfl (Nat.le_of_ble_eq_true rfl) (vc_X12_isAsk ⟨fun c => h0 ?_, fun c => ⟨fun c2 => h0 ?_, fun c2 => ?_⟩⟩)
  · rintro ⟨p, hp, rfl⟩
    exact absurd c (nI_pos (by omega))
  · rintro ⟨p, hp, rfl⟩
    rw [h1] at c2
    exact absurd ((nI_leI (by omega) (by omega)).mp c2) (by omega)
  · obtain ⟨p, hp', e⟩ := nI_of c
    rw [h1, e] at c2
    refine hp p ?_ e
    rcases Nat.lt_or_ge p K with q | q
    · exact q
    · exact absurd (nI_le q hp') c2
end MFIT
