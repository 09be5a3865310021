/-! The model's day: rows. -/
section MSTEP
variable {G : GG} {l : Launch} {d : Nat} {post : Option AVal → AS → Prop} {σ : AS} {kk nn : Nat} {N K : Nat}
def PS : Nat → Prop := fun f => f = 0 ∨ f = 2 ∨ f = 12 ∨ f = 29 ∨ f = 55
def QS : Nat → Nat → Prop := fun c a => (c = 26 ∧ (a = 5 ∨ a = 6 ∨ a = 7 ∨ a = 8 ∨ a = 9 ∨ (27 ≤ a ∧ a ≤ 35))) ∨ (c = 21 ∧ a = 4)
def RowM (σ' : AS) (k : Nat) (sc co dr bg se ag : Int32) : Prop := gA σ' 26 27 k = sc ∧ gA σ' 26 28 k = co ∧ gA σ' 26 29 k = dr ∧ gA σ' 26 30 k = bg ∧ gA σ' 26 31 k = se ∧ gA σ' 26 32 k = ag
theorem m_next_ {x : Int32} (h : post (some (xI (nxt x))) σ) : AMet G l M_X12_next_ d 0 0 [xI x] σ post :=
  AMet.of rfl (Nat.le_of_ble_eq_true rfl) (vc_X12_next_ h)
/-- amid the day's rows: people below p have theirs -/
def RowI (σ σ1 : AS) (N A D F R : Nat) (asg : Nat → Option Nat) (sc tk come DR bg : Nat → Int32) (p : Nat) : Prop := MZ False PS QS σ σ1 ∧
  (∀ q, q < p → ∀ a, asg q = some a → RowM σ1 (40 * D + q) (sc a) (come q) (DR q) (bg a) (bg a + tk a) (nI A - 1) ∧ gA σ1 26 5 q = gA σ 26 5 q + 1 ∧ gA σ1 26 6 q = 1440 * nI D + (bg a + tk a) + 660 ∧ gA σ1 26 8 (F + cAll asg q) = nI q ∧ gA σ1 26 9 (F + cAll asg q) = sc a) ∧
  (∀ q, q < p → asg q = none → gA σ1 26 27 (40 * D + q) = -1) ∧
  (∀ q, (q < p → asg q = none) → gA σ1 26 5 q = gA σ 26 5 q ∧ gA σ1 26 6 q = gA σ 26 6 q) ∧
  (∀ x, 27 ≤ x → x ≤ 32 → ∀ i, i < 40 * D → gA σ1 26 x i = gA σ 26 x i) ∧ (∀ i, i < F → gA σ1 26 8 i = gA σ 26 8 i ∧ gA σ1 26 9 i = gA σ 26 9 i) ∧
  gI σ1 13 12 0 = nI (F + cAll asg p) ∧ gI σ1 13 55 0 = nI (R + cAll asg p) ∧ (∀ f, f ≠ 12 → f ≠ 55 → gI σ1 13 f 0 = gI σ 13 f 0) ∧ (∀ x, x ≠ 5 → x ≠ 6 → x ≠ 8 → x ≠ 9 → ¬ (27 ≤ x ∧ x ≤ 32) → ∀ i, gA σ1 26 x i = gA σ 26 x i)
/-- what the model's day is told of -/
def DayI (σ : AS) (N K A D F R : Nat) (asg : Nat → Option Nat) (sc tk come DR : Nat → Int32) : Prop := CalM σ N K asg ∧ gI σ 13 2 0 = nI D ∧ D < 60 ∧ gI σ 13 49 0 = nI A ∧ gI σ 13 12 0 = nI F ∧ F + 40 ≤ 2600 ∧ gI σ 13 55 0 = nI R ∧ (∀ a, a < K → gA σ 26 10 a = sc a ∧ gA σ 26 12 a = tk a) ∧ (∀ p, p < N → asg p ≠ none → gA σ 26 34 p = come p ∧ gA σ 26 35 p = DR p)
theorem cAll_lt2 {asg : Nat → Option Nat} {p q : Nat} (h : asg q ≠ none) : q < p → cAll asg q < cAll asg p := by
  intro hq
  have := cAll_mono (asg := asg) (p := q + 1) p (by omega)
  rw [cAll, if_neg h] at this
  omega
theorem m_row {A D F R p a : Nat} {asg : Nat → Option Nat} {sc tk come DR bg : Nat → Int32} {la : Int32} {σ1 : AS} (hS : St σ) (hI : DayI σ N K A D F R asg sc tk come DR) (hp : p < N) (ha : asg p = some a) (I : RowI σ σ1 N A D F R asg sc tk come DR bg p)
    (h : ∀ σ', RowI σ σ' N A D F R asg sc tk come DR bg (p + 1) → AW G l M_X12_step (d + 1) post σ' kk nn 154 [some (xR (some (13, 0))), none, none, none, some (xI (mx la (bg a + tk a))), some (xI (nI (p + 1))), none, none, none] []) :
    AW G l M_X12_step (d + 1) post (sA σ1 26 27 (40 * D + p) (-1)) kk nn 203 [some (xR (some (13, 0))), none, none, none, some (xI la), some (xI (nI p)), some (xI (nI (40 * D + p))), some (xI (bg a)), some (xI (nI N))] [] := by
  obtain ⟨hC, h2, hD, h49, h12, hF, h55, hask, hpers⟩ := hI
  obtain ⟨hc, hk', hK, hN, h1'⟩ := id hC
  obtain ⟨Z, i1, i2, i3, i4, i5, i6, i7, i8, i9⟩ := I
  have haK := hk' p hp a ha
  have hcl := cAll_le (asg := asg) p
  generalize hk : 40 * D + p = k
  have hk24 : k < 2400 := by omega
  have vp : vp_in (nI p) 40 := vp_in_nI (by omega) (by decide)
  have va : vp_in (nI a) 6 := vp_in_nI (by omega) (by decide)
  have vk : vp_in (nI k) 2400 := vp_in_nI hk24 (by decide)
  have Z0 : MZ False PS QS σ (sA σ1 26 27 k (-1)) := Z.setA (by decide) (Or.inl ⟨rfl, by omega⟩)
  have e1 : gI (sA σ1 26 27 k (-1)) 13 1 0 = nI N := (i8 1 (by decide) (by decide)).trans h1'
  have e7 : gA (sA σ1 26 27 k (-1)) 26 7 p = nI a := by
    rw [gA_o (by omega), i9 7 (by decide) (by decide) (by decide) (by decide) (by decide), hc p hp, ha]; rfl
  have e49 : gI (sA σ1 26 27 k (-1)) 13 49 0 = nI A := (i8 49 (by decide) (by decide)).trans h49
  have e55 : gI (sA σ1 26 27 k (-1)) 13 55 0 = nI (R + cAll asg p) := i7
  have e2 : gI (sA σ1 26 27 k (-1)) 13 2 0 = nI D := (i8 2 (by decide) (by decide)).trans h2
  have e12 : gI (sA σ1 26 27 k (-1)) 13 12 0 = nI (F + cAll asg p) := i6
  have e10 : gA (sA σ1 26 27 k (-1)) 26 10 a = sc a := (gA_o (by omega)).trans ((i9 10 (by decide) (by decide) (by decide) (by decide) (by decide) a).trans (hask a haK).1)
  have et : gA (sA σ1 26 27 k (-1)) 26 12 a = tk a := (gA_o (by omega)).trans ((i9 12 (by decide) (by decide) (by decide) (by decide) (by decide) a).trans (hask a haK).2)
  have e34 : gA (sA σ1 26 27 k (-1)) 26 34 p = come p := (gA_o (by omega)).trans ((i9 34 (by decide) (by decide) (by decide) (by decide) (by decide) p).trans (hpers p hp (by rw [ha]; simp)).1)
  have e35 : gA (sA σ1 26 27 k (-1)) 26 35 p = DR p := (gA_o (by omega)).trans ((i9 35 (by decide) (by decide) (by decide) (by decide) (by decide) p).trans (hpers p hp (by rw [ha]; simp)).2)
  have e5 : gA (sA σ1 26 27 k (-1)) 26 5 p = gA σ 26 5 p := (gA_o (by omega)).trans (i3 p (fun q => absurd q (Nat.lt_irrefl p))).1
  have old : ∀ c x j, ¬ (c = 26 ∧ x = 27 ∧ j = k) → gA (sA σ1 26 27 k (-1)) c x j = gA σ1 c x j := fun c x j z => gA_o z
  refine vc_X12_step_203 (d := d) (Z0.st hS) ⟨fun _ => ?_, fun c => absurd (by rw [e1]; exact nI_le (Nat.le_refl _) (by omega)) c⟩
  rw [nI_clamp (n := p) (by omega), nI_clamp (n := k) (by omega), e7, nI_clamp (n := a) (by omega), e49, e55, e2, e10]
  generalize hs : sA σ1 26 27 k (-1) = s0 at *
  generalize q1 : sA s0 26 27 k (sc a) = s1
  have f34 : gA s1 26 34 p = come p := by rw [← q1, gA_o (by omega)]; exact e34
  rw [f34]
  generalize q2 : sA s1 26 28 k (come p) = s2
  have f35 : gA s2 26 35 p = DR p := by rw [← q2, gA_o (by omega), ← q1, gA_o (by omega)]; exact e35
  rw [f35]
  generalize q3 : sA s2 26 29 k (DR p) = s3
  generalize q4 : sA s3 26 30 k (bg a) = s4
  have f7 : gA s4 26 7 p = nI a := by rw [← q4, gA_o (by omega), ← q3, gA_o (by omega), ← q2, gA_o (by omega), ← q1, gA_o (by omega)]; exact e7
  have f12 : gA s4 26 12 a = tk a := by rw [← q4, gA_o (by omega), ← q3, gA_o (by omega), ← q2, gA_o (by omega), ← q1, gA_o (by omega)]; exact et
  rw [f7, nI_clamp (n := a) (by omega), f12]
  generalize q5 : sA s4 26 31 k (bg a + tk a) = s5
  generalize q6 : sA s5 26 32 k (nI A - 1) = s6
  have f31 : gA s6 26 31 k = bg a + tk a := by rw [← q6, gA_o (by omega), ← q5, gA_self]
  rw [f31, nI_1]
  generalize q7 : sI s6 13 55 0 (nI (R + cAll asg p + 1)) = s7
  have g5 : gA s7 26 5 p = gA σ 26 5 p := by rw [← q7]; show gA s6 26 5 p = _; rw [← q6, gA_o (by omega), ← q5, gA_o (by omega), ← q4, gA_o (by omega), ← q3, gA_o (by omega), ← q2, gA_o (by omega), ← q1, gA_o (by omega)]; exact e5
  rw [g5]
  generalize q8 : sA s7 26 5 p (gA σ 26 5 p + 1) = s8
  have g31 : gA s8 26 31 k = bg a + tk a := by rw [← q8, gA_o (by omega), ← q7]; exact f31
  rw [g31]
  generalize q9 : sA s8 26 6 p (1440 * nI D + (bg a + tk a) + 660) = s9
  have g27 : gA s9 26 27 k = sc a := by
    rw [← q9, gA_o (by omega), ← q8, gA_o (by omega), ← q7]
    show gA s6 26 27 k = _
    rw [← q6, gA_o (by omega), ← q5, gA_o (by omega), ← q4, gA_o (by omega), ← q3, gA_o (by omega), ← q2, gA_o (by omega), ← q1, gA_self]
  rw [g27]
  have Z9 : MZ False PS QS σ s9 := by
    rw [← q9, ← q8, ← q7, ← q6, ← q5, ← q4, ← q3, ← q2, ← q1]
    exact ((((((((Z0.setA (by decide) (Or.inl ⟨rfl, by omega⟩)).setA (by decide) (Or.inl ⟨rfl, by omega⟩)).setA (by decide) (Or.inl ⟨rfl, by omega⟩)).setA (by decide) (Or.inl ⟨rfl, by omega⟩)).setA (by decide) (Or.inl ⟨rfl, by omega⟩)).setA (by decide) (Or.inl ⟨rfl, by omega⟩)).set (Or.inr (Or.inr (Or.inr (Or.inr rfl))))).setA (by decide) (Or.inl ⟨rfl, by omega⟩)).setA (by decide) (Or.inl ⟨rfl, by omega⟩)
  have o9 : ∀ x j, ¬ (27 ≤ x ∧ x ≤ 32 ∧ j = k) → ¬ ((x = 5 ∨ x = 6) ∧ j = p) → gA s9 26 x j = gA σ1 26 x j := by
    intro x j n1 n2
    rw [← q9, gA_o (by omega), ← q8, gA_o (by omega), ← q7]
    show gA s6 26 x j = _
    rw [← q6, gA_o (by omega), ← q5, gA_o (by omega), ← q4, gA_o (by omega), ← q3, gA_o (by omega), ← q2, gA_o (by omega), ← q1, gA_o (by omega), old 26 x j (by omega)]
  have f9 : ∀ f, f ≠ 55 → gI s9 13 f 0 = gI s0 13 f 0 := by
    intro f hf
    rw [← q9, ← q8, ← q7]
    show gI (sI s6 13 55 0 _) 13 f 0 = _
    rw [gI_o (by omega), ← q6, ← q5, ← q4, ← q3, ← q2, ← q1]
    rfl
  have f55 : gI s9 13 55 0 = nI (R + cAll asg p + 1) := by
    rw [← q9, ← q8, ← q7]
    show gI (sI s6 13 55 0 _) 13 55 0 = _
    exact gI_self
  refine ⟨vp, va, vk, vp, vk, vp, vk, vk, vp, va, vk, vk, vk, vp, vp, vk, vp, vk, ?_⟩
  have ec : cAll asg (p + 1) = cAll asg p + 1 := by rw [cAll, if_neg (by rw [ha]; simp)]
  refine m_fact (F := F + cAll asg p) (Z9.st hS) (by omega) ((f9 12 (by decide)).trans e12) ?_
  dsimp only [retI]
  rw [nI_1]
  refine h _ ⟨?_, fun q hq b hb => ?_, fun q hq hb => ?_, fun q hq => ?_, fun x x1 x2 i hi => ?_, fun i hi => ?_, ?_, ?_, fun f n1 n2 => ?_, fun x n1 n2 n3 n4 n5 i => ?_⟩
  · exact ((Z9.setA (by decide) (Or.inl ⟨rfl, by omega⟩)).setA (by decide) (Or.inl ⟨rfl, by omega⟩)).set (Or.inr (Or.inr (Or.inl rfl)))
  · have st : ∀ x j, x ≠ 8 → x ≠ 9 → gA (sI (sA (sA s9 26 8 (F + cAll asg p) (nI p)) 26 9 (F + cAll asg p) (sc a)) 13 12 0 (nI (F + cAll asg p + 1))) 26 x j = gA s9 26 x j := fun x j y1 y2 => by
      show gA (sA (sA s9 26 8 _ _) 26 9 _ _) 26 x j = _
      rw [gA_o (by omega), gA_o (by omega)]
    by_cases w : q = p
    · subst w
      rw [ha] at hb; cases hb
      refine ⟨⟨?_, ?_, ?_, ?_, ?_, ?_⟩, ?_, ?_, ?_, ?_⟩
      · rw [hk, st 27 k (by decide) (by decide)]; exact g27
      · rw [hk, st 28 k (by decide) (by decide), ← q9, gA_o (by omega), ← q8, gA_o (by omega), ← q7]
        show gA s6 26 28 k = _
        rw [← q6, gA_o (by omega), ← q5, gA_o (by omega), ← q4, gA_o (by omega), ← q3, gA_o (by omega), ← q2, gA_self]
      · rw [hk, st 29 k (by decide) (by decide), ← q9, gA_o (by omega), ← q8, gA_o (by omega), ← q7]
        show gA s6 26 29 k = _
        rw [← q6, gA_o (by omega), ← q5, gA_o (by omega), ← q4, gA_o (by omega), ← q3, gA_self]
      · rw [hk, st 30 k (by decide) (by decide), ← q9, gA_o (by omega), ← q8, gA_o (by omega), ← q7]
        show gA s6 26 30 k = _
        rw [← q6, gA_o (by omega), ← q5, gA_o (by omega), ← q4, gA_self]
      · rw [hk, st 31 k (by decide) (by decide), ← q9, gA_o (by omega)]; exact g31
      · rw [hk, st 32 k (by decide) (by decide), ← q9, gA_o (by omega), ← q8, gA_o (by omega), ← q7]
        show gA s6 26 32 k = _
        rw [← q6, gA_self]
      · rw [st 5 q (by decide) (by decide), ← q9, gA_o (by omega), ← q8, gA_self]
      · rw [st 6 q (by decide) (by decide), ← q9, gA_self]
      · show gA (sA (sA s9 26 8 _ _) 26 9 _ _) 26 8 _ = _
        rw [gA_o (by omega), gA_self]
      · show gA (sA (sA s9 26 8 _ _) 26 9 _ _) 26 9 _ = _
        rw [gA_self]
    · obtain ⟨⟨b1, b2, b3, b4, b5, b6⟩, c5, c6, c8, c9⟩ := i1 q (by omega) b hb
      have lt : cAll asg q < cAll asg p := cAll_lt2 (by rw [hb]; simp) (by omega)
      have r : ∀ x, x ≠ 8 → x ≠ 9 → gA (sI (sA (sA s9 26 8 (F + cAll asg p) (nI p)) 26 9 (F + cAll asg p) (sc a)) 13 12 0 (nI (F + cAll asg p + 1))) 26 x (40 * D + q) = gA σ1 26 x (40 * D + q) ∨ (x = 5 ∨ x = 6) := fun x y1 y2 => by
        by_cases y : x = 5 ∨ x = 6
        · exact Or.inr y
        · exact Or.inl ((st x _ y1 y2).trans (o9 x _ (by omega) (by omega)))
      refine ⟨⟨?_, ?_, ?_, ?_, ?_, ?_⟩, ?_, ?_, ?_, ?_⟩
      · exact ((st 27 _ (by decide) (by decide)).trans (o9 27 _ (by omega) (by omega))).trans b1
      · exact ((st 28 _ (by decide) (by decide)).trans (o9 28 _ (by omega) (by omega))).trans b2
      · exact ((st 29 _ (by decide) (by decide)).trans (o9 29 _ (by omega) (by omega))).trans b3
      · exact ((st 30 _ (by decide) (by decide)).trans (o9 30 _ (by omega) (by omega))).trans b4
      · exact ((st 31 _ (by decide) (by decide)).trans (o9 31 _ (by omega) (by omega))).trans b5
      · exact ((st 32 _ (by decide) (by decide)).trans (o9 32 _ (by omega) (by omega))).trans b6
      · exact ((st 5 _ (by decide) (by decide)).trans (o9 5 _ (by omega) (by omega))).trans c5
      · exact ((st 6 _ (by decide) (by decide)).trans (o9 6 _ (by omega) (by omega))).trans c6
      · show gA (sA (sA s9 26 8 _ _) 26 9 _ _) 26 8 _ = _
        rw [gA_o (by omega), gA_o (by omega), o9 8 _ (by omega) (by omega)]; exact c8
      · show gA (sA (sA s9 26 8 _ _) 26 9 _ _) 26 9 _ = _
        rw [gA_o (by omega), gA_o (by omega), o9 9 _ (by omega) (by omega)]; exact c9
  · have w : q ≠ p := fun e => by subst e; rw [ha] at hb; cases hb
    show gA (sA (sA s9 26 8 _ _) 26 9 _ _) 26 27 _ = _
    rw [gA_o (by omega), gA_o (by omega), o9 27 _ (by omega) (by omega)]
    exact i2 q (by omega) hb
  · have w : q ≠ p := fun e => by
      subst e
      have := hq (Nat.lt_succ_self q)
      rw [ha] at this; cases this
    obtain ⟨c5, c6⟩ := i3 q (fun z => hq (by omega))
    refine ⟨?_, ?_⟩
    · show gA (sA (sA s9 26 8 _ _) 26 9 _ _) 26 5 _ = _
      rw [gA_o (by omega), gA_o (by omega), o9 5 _ (by omega) (by omega)]; exact c5
    · show gA (sA (sA s9 26 8 _ _) 26 9 _ _) 26 6 _ = _
      rw [gA_o (by omega), gA_o (by omega), o9 6 _ (by omega) (by omega)]; exact c6
  · show gA (sA (sA s9 26 8 _ _) 26 9 _ _) 26 x _ = _
    rw [gA_o (by omega), gA_o (by omega), o9 x _ (by omega) (by omega)]; exact i4 x x1 x2 i hi
  · refine ⟨?_, ?_⟩
    · show gA (sA (sA s9 26 8 _ _) 26 9 _ _) 26 8 _ = _
      rw [gA_o (by omega), gA_o (by omega), o9 8 _ (by omega) (by omega)]; exact (i5 i hi).1
    · show gA (sA (sA s9 26 8 _ _) 26 9 _ _) 26 9 _ = _
      rw [gA_o (by omega), gA_o (by omega), o9 9 _ (by omega) (by omega)]; exact (i5 i hi).2
  · rw [gI_self, ec, Nat.add_assoc]
  · rw [gI_o (by decide)]
    show gI s9 13 55 0 = _
    rw [f55, ec, Nat.add_assoc]
  · rw [gI_o (by omega)]
    show gI s9 13 f 0 = _
    rw [f9 f n2, ← hs]
    exact i8 f n1 n2
  · show gA (sA (sA s9 26 8 _ _) 26 9 _ _) 26 x _ = _
    rw [gA_o (by omega), gA_o (by omega), o9 x _ (by omega) (by omega)]; exact i9 x n1 n2 n3 n4 n5 i
end MSTEP
