/-! The model's agree. -/
section MAGREE3
variable {G : GG} {l : Launch} {d : Nat} {post : Option AVal → AS → Prop} {σ : AS} {kk nn : Nat}
def PG : Nat → Prop := fun f => f = 0 ∨ f = 17 ∨ (19 ≤ f ∧ f ≤ 26) ∨ f = 49
/-- terms of older agreements are as they were -/
def KA (σ σ' : AS) (A : Nat) : Prop := (∀ a j, a ≠ 23 → j < 8 * A → gA σ' 26 a j = gA σ 26 a j) ∧ (∀ j, j ≠ A → gA σ' 26 23 j = gA σ 26 23 j) ∧ ∀ j, j < 8 * A → gA σ' 21 3 j = gA σ 21 3 j
theorem KT.ka {σ1 : AS} {A t : Nat} (h : KT σ σ1 A (8 * A + t)) : KA σ σ1 A := ⟨fun a j x y => h.1 a j x (by omega), h.2.1, fun j y => h.2.2 j (by omega)⟩
theorem KA.tr {σ1 σ2 : AS} {A : Nat} (h : KA σ σ1 A) (q : KA σ1 σ2 A) : KA σ σ2 A := ⟨fun a j x y => (q.1 a j x y).trans (h.1 a j x y), fun j x => (q.2.1 j x).trans (h.2.1 j x), fun j x => (q.2.2 j x).trans (h.2.2 j x)⟩
theorem KA.of {σ1 : AS} {A : Nat} (h : ∀ c a j, c ≠ 13 → gA σ1 c a j = gA σ c a j) : KA σ σ1 A := ⟨fun a j _ _ => h 26 a j (by decide), fun j _ => h 26 23 j (by decide), fun j _ => h 21 3 j (by decide)⟩
def TermM (σ : AS) (k n : Nat) (b : Nat → Int32) (i : Nat) : Prop := gA σ 26 24 k = tmK n b i ∧ gA σ 26 25 k = tmM n b (tE n b i) (tmK n b i) ∧ gA σ 26 26 k = tmN n b (tE n b i) (tmK n b i) ∧ gA σ 21 3 k = tmU n b (tE n b i) (tmK n b i)
def MidD (σ σ1 : AS) (n : Nat) (b : Nat → Int32) (A t : Nat) : Prop := MZ True PG QT σ σ1 ∧ MB σ1 0 n b ∧ MTok σ1 n b (ipT n b t) ∧ ipT n b t ≤ n ∧ gI σ1 13 24 0 = 0 ∧ gI σ1 13 0 0 = 0 ∧ gI σ1 13 49 0 = nI A ∧ gA σ1 26 23 A = nI t ∧ KA σ σ1 A ∧ ∀ s, s < t → TermM σ1 (8 * A + s) n b (ipT n b s)
theorem a_magree {n A : Nat} {b : Nat → Int32} (hS : St σ) (hA : A < 30)
    (hok : ∀ K σ', K ≤ 8 → (∃ i, rallT n b 8 0 0 = (K, (0, i))) → MZ True PG QT σ σ' → KA σ σ' A → gI σ' 13 0 0 = 0 → gI σ' 13 17 0 = 0 → gI σ' 13 26 0 = -1 → gI σ' 13 49 0 = nI (A + 1) → gA σ' 26 23 A = nI K → (∀ s, s < K → TermM σ' (8 * A + s) n b (ipT n b s)) → post (some (xI (nI A))) σ')
    (hbad : ∀ k o σ', rallT n b 8 0 0 = (k, o) → ¬ o.1 = 0 → MZ True PG QT σ σ' → KA σ σ' A → gI σ' 13 0 0 = 0 → gI σ' 13 17 0 = 0 → gI σ' 13 26 0 = nI o.2 → gI σ' 13 49 0 = nI A → post (some (xI (-2 - o.1))) σ') :
    ∀ f t, t + f = 8 → ∀ σ1, rallT n b f t (ipT n b t) = rallT n b 8 0 0 → MidD σ σ1 n b A t → AW G l M_X12_agree (d + 7) post σ1 kk nn 45 [some (xR (some (13, 0)))] [] := by
  have P17 : PG 17 := Or.inr (Or.inl rfl)
  have P26 : PG 26 := Or.inr (Or.inr (Or.inl ⟨by omega, by omega⟩))
  have P49 : PG 49 := Or.inr (Or.inr (Or.inr rfl))
  have bad : ∀ k o σ1, rallT n b 8 0 0 = (k, o) → ¬ o.1 = 0 → MZ True PG QT σ σ1 → KA σ σ1 A → gI σ1 13 0 0 = 0 → gI σ1 13 49 0 = nI A → gI σ1 13 24 0 = o.1 → gI σ1 13 25 0 = nI o.2 → AW G l M_X12_agree (d + 7) post σ1 kk nn 45 [some (xR (some (13, 0)))] [] := by
    intro k o σ1 e z Z K z0 z49 f1 f2
    have z' : ¬ gI σ1 13 24 0 = 0 := by rw [f1]; exact z
    refine vc_X12_agree_45 (d := d + 6) ⟨fun _ => ⟨fun _ => ⟨fun q => absurd q z', fun _ => ?_⟩, fun q => absurd q z'⟩, fun q => absurd q z'⟩
    rw [f1, f2]
    exact hbad k o _ e z ((Z.set P17).set P26) ⟨K.1, K.2.1, K.2.2⟩ (by rw [gI_o (by decide), gI_o (by decide)]; exact z0) (by rw [gI_o (by decide), gI_self]) gI_self (by rw [gI_o (by decide), gI_o (by decide)]; exact z49)
  have head : ∀ t σ1, t ≤ 8 → MidD σ σ1 n b A t → (tK n b (ipT n b t) = 0 → rallT n b 8 0 0 = (t, (0, ipT n b t))) →
      (¬ tK n b (ipT n b t) = 0 → ∀ σ2, APT σ1 σ2 n b (ipT n b t) A t (rkT n b t (ipT n b t)) → AW G l M_X12_agree (d + 7) post σ2 kk nn 45 [some (xR (some (13, 0)))] []) → AW G l M_X12_agree (d + 7) post σ1 kk nn 45 [some (xR (some (13, 0)))] [] := by
    intro t σ1 ht M e0 e1
    obtain ⟨Z, B, T, hle, z24, z0, z49, z23, K, tt⟩ := id M
    refine vc_X12_agree_45 (d := d + 6) ⟨fun q => absurd z24 q, fun _ => ⟨fun c => ⟨fun q => absurd z24 q, fun _ => ⟨fun _ => ?_, fun q => absurd z24 q⟩⟩, fun c => ?_⟩⟩
    · rw [T.2.2.1] at c
      rw [z49, nI_1, nI_pred]
      refine hok t _ ht ⟨_, e0 (mS_0.mp c)⟩ (((Z.set P17).set P26).set P49) ⟨K.1, K.2.1, K.2.2⟩ ?_ ?_ ?_ gI_self z23 tt
      · rw [gI_o (by decide), gI_o (by decide), gI_o (by decide)]; exact z0
      · rw [gI_o (by decide), gI_o (by decide), gI_self]
      · rw [gI_o (by decide), gI_self]
    · rw [T.2.2.1] at c
      exact m_readTerm (d := d) hA ht (Z.st hS) B hle T z24 z49 z23 (fun σ2 A => e1 (fun q => c (mS_0.mpr q)) σ2 A)
  have pt : ∀ f, PT f → PG f := fun f h => Or.inr (Or.inr (Or.inl ⟨by have := h.1; omega, by have := h.2; omega⟩))
  intro f
  induction f with
  | zero =>
    intro t htf σ1 hR M
    have e8 : t = 8 := by omega
    subst e8
    refine head 8 σ1 (Nat.le_refl 8) M (fun c => ?_) (fun c σ2 A2 => ?_)
    · rw [← hR, rallT, if_pos c]
    · rw [rallT, if_neg c] at hR
      have ne : ¬ (rkT n b 8 (ipT n b 8)).1 = 0 := by
        unfold rkT
        by_cases w : tmK n b (ipT n b 8) = -1
        · rw [if_pos w]; exact i1n0
        · rw [if_neg w, if_pos rfl]; exact i2n0
      have e : (if tmK n b (ipT n b 8) = -1 then ((1 : Int32), tS n b (ipT n b 8)) else (2, tS n b (ipT n b 8))) = rkT n b 8 (ipT n b 8) := by
        unfold rkT
        by_cases w : tmK n b (ipT n b 8) = -1
        · rw [if_pos w, if_pos w]
        · rw [if_neg w, if_neg w, if_pos rfl]
      rw [e] at hR
      obtain ⟨Z2, K2, R2, _⟩ := A2
      rcases R2 with q | q
      · exact absurd q.1 ne
      · exact bad 8 _ σ2 hR.symm ne (M.1.tr (Z2.mono (fun _ => trivial) pt (fun _ _ q => q))) (M.2.2.2.2.2.2.2.2.1.tr K2.ka) ((Z2.2.2.2.2.1 0 0 (fun q => by have := q.1; omega)).trans M.2.2.2.2.2.1) ((Z2.2.2.2.2.1 49 0 (fun q => by have := q.2; omega)).trans M.2.2.2.2.2.2.1) q.2.1 q.2.2
  | succ f ih =>
    intro t htf σ1 hR M
    refine head t σ1 (by omega) M (fun c => ?_) (fun c σ2 A2 => ?_)
    · rw [← hR, rallT, if_pos c]
    · rw [rallT, if_neg c] at hR
      have e : rkT n b t (ipT n b t) = rt n b (ipT n b t) := by
        unfold rkT
        by_cases w : tmK n b (ipT n b t) = -1
        · rw [if_pos w]; unfold rt; rw [if_pos w]
        · rw [if_neg w, if_neg (by omega)]
      rw [e] at A2
      obtain ⟨Z2, K2, R2, vs⟩ := A2
      have Z3 : MZ True PG QT σ σ2 := M.1.tr (Z2.mono (fun _ => trivial) pt (fun _ _ q => q))
      have z0 : gI σ2 13 0 0 = 0 := (Z2.2.2.2.2.1 0 0 (fun q => by have := q.1; omega)).trans M.2.2.2.2.2.1
      have z49 : gI σ2 13 49 0 = nI A := (Z2.2.2.2.2.1 49 0 (fun q => by have := q.2; omega)).trans M.2.2.2.2.2.2.1
      rcases R2 with q | q
      · rw [if_pos q.1] at hR
        obtain ⟨v23, w1, w2, w3, w4⟩ := vs q.1
        refine ih (t + 1) (by omega) σ2 hR ⟨Z3, Z2.mb (fun q => by have := q.1; omega) (fun q => by rcases q with q | q <;> omega) M.2.1, q.2.1, q.2.2.1, q.2.2.2, z0, z49, v23, M.2.2.2.2.2.2.2.2.1.tr K2.ka, fun s hs => ?_⟩
        by_cases es : s = t
        · subst es; exact ⟨w1, w2, w3, w4⟩
        · obtain ⟨y1, y2, y3, y4⟩ := M.2.2.2.2.2.2.2.2.2 s (by omega)
          exact ⟨(K2.1 24 _ (by decide) (by omega)).trans y1, (K2.1 25 _ (by decide) (by omega)).trans y2, (K2.1 26 _ (by decide) (by omega)).trans y3, (K2.2.2 _ (by omega)).trans y4⟩
      · rw [if_neg q.1] at hR
        exact bad t _ σ2 hR.symm q.1 Z3 (M.2.2.2.2.2.2.2.2.1.tr K2.ka) z0 z49 q.2.1 q.2.2
theorem m_agree {n A : Nat} {b : Nat → Int32} (hS : St σ) (hA : A ≤ 30) (h49 : gI σ 13 49 0 = nI A) (h17 : gI σ 13 17 0 = nI n) (hn : n ≤ 1000) (hb : ∀ i, i < n → gA σ 22 0 i = sgb (b i)) (hb2 : ∀ i, i < n → ∃ m, m < 256 ∧ b i = nI m)
    (hfull : A = 30 → post (some (xI (-2))) (sI σ 13 0 0 0))
    (hok : A < 30 → ∀ K σ', K ≤ 8 → (∃ i, rallT n b 8 0 0 = (K, (0, i))) → MZ True PG QT σ σ' → KA σ σ' A → gI σ' 13 0 0 = 0 → gI σ' 13 17 0 = 0 → gI σ' 13 26 0 = -1 → gI σ' 13 49 0 = nI (A + 1) → gA σ' 26 23 A = nI K → (∀ s, s < K → TermM σ' (8 * A + s) n b (ipT n b s)) → post (some (xI (nI A))) σ')
    (hbad : A < 30 → ∀ k o σ', rallT n b 8 0 0 = (k, o) → ¬ o.1 = 0 → MZ True PG QT σ σ' → KA σ σ' A → gI σ' 13 0 0 = 0 → gI σ' 13 17 0 = 0 → gI σ' 13 26 0 = nI o.2 → gI σ' 13 49 0 = nI A → post (some (xI (-2 - o.1))) σ') : AMet G l M_X12_agree (d + 7) 0 0 [xR (some (13, 0))] σ post := by
  have lT : gN σ 22 0 = 1000 := St.len hS 22 0 1000 (by decide)
  refine AMet.of rfl (Nat.le_of_ble_eq_true rfl) (vc_X12_agree (d := d + 6) hS ⟨fun c => ?_, fun c => ?_⟩)
  · rw [h49] at c
    have hA' : A < 30 := by
      rcases Nat.lt_or_ge A 30 with q | q
      · exact q
      · have e : A = 30 := by omega
        subst e; exact absurd rfl c
    rw [h49, nI_clamp (by omega)]
    have Z0 : MZ True PG QT σ (sA (sI (sI σ 13 0 0 0) 13 24 0 0) 26 23 A 0) := ((MZ.rf.set (Or.inl rfl)).set (Or.inr (Or.inr (Or.inl ⟨by omega, by omega⟩)))).setA (by decide) (Or.inl ⟨rfl, by decide, by decide⟩)
    refine ⟨vp_in_nI hA' (by decide), m_starts (d := d + 4) (i := 0) (b := b) (R := True) (P := PG) (Q := QT) hn (Nat.zero_le n) h17 lT hb hb2 trivial (fun f x y => Or.inr (Or.inr (Or.inl ⟨x, by omega⟩))) (show gI (sI (sI σ 13 0 0 0) 13 24 0 0) 13 24 0 = 0 from gI_self) (fun σ1 Z1 g1 a1 B1 T1 z1 => ?_)⟩
    refine a_magree hS hA' (hok hA') (hbad hA') 8 0 rfl σ1 rfl ⟨Z0.tr Z1, B1, T1, Nat.zero_le n, z1, ?_, ?_, ?_, ?_, fun s hs => absurd hs (Nat.not_lt_zero s)⟩
    · rw [g1 0 0 (by omega)]
      show gI (sI (sI σ 13 0 0 0) 13 24 0 0) 13 0 0 = 0
      rw [gI_o (by decide), gI_self]
    · rw [g1 49 0 (by omega)]
      show gI (sI (sI σ 13 0 0 0) 13 24 0 0) 13 49 0 = _
      rw [gI_o (by decide), gI_o (by decide)]; exact h49
    · rw [a1 26 23 A (by decide), gA_self, nI_0]
    · have K0 : KA σ (sA (sI (sI σ 13 0 0 0) 13 24 0 0) 26 23 A 0) A := ⟨fun a j x _ => gA_o (fun e => x e.2.1), fun j x => gA_o (fun e => x e.2.2), fun j _ => gA_o (by omega)⟩
      exact K0.tr (KA.of a1)
  · rw [h49] at c
    exact hfull ((nI_eq (b := 30) (by omega) (by decide)).mp c)
end MAGREE3
