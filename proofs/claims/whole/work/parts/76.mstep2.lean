/-! The model's day, whole. -/
section MSTEP2
variable {G : GG} {l : Launch} {d : Nat} {post : Option AVal → AS → Prop} {σ : AS} {kk nn : Nat} {N K : Nat}
/-- behind the model's day -/
def DayM (σ σ' : AS) (N A D F R : Nat) (asg : Nat → Option Nat) (sc tk come DR bg : Nat → Int32) : Prop := MZ False PS QS σ σ' ∧
  (∀ q, q < N → ∀ a, asg q = some a → RowM σ' (40 * D + q) (sc a) (come q) (DR q) (bg a) (bg a + tk a) (nI A - 1) ∧ gA σ' 26 5 q = gA σ 26 5 q + 1 ∧ gA σ' 26 6 q = 1440 * nI D + (bg a + tk a) + 660 ∧ gA σ' 26 8 (F + cAll asg q) = nI q ∧ gA σ' 26 9 (F + cAll asg q) = sc a) ∧
  (∀ q, q < 40 → (q < N → asg q = none) → gA σ' 26 27 (40 * D + q) = -1) ∧
  (∀ q, (q < N → asg q = none) → gA σ' 26 5 q = gA σ 26 5 q ∧ gA σ' 26 6 q = gA σ 26 6 q) ∧
  (∀ x, 27 ≤ x → x ≤ 32 → ∀ i, i < 40 * D → gA σ' 26 x i = gA σ 26 x i) ∧ (∀ i, i < F → gA σ' 26 8 i = gA σ 26 8 i ∧ gA σ' 26 9 i = gA σ 26 9 i) ∧
  gI σ' 13 12 0 = nI (F + cAll asg N) ∧ gI σ' 13 55 0 = nI (R + cAll asg N) ∧ gI σ' 13 2 0 = nI (D + 1) ∧ gI σ' 13 29 0 = 0 ∧ (∀ p, p < 40 → gA σ' 26 7 p = -1)
theorem m_rows {A D F R : Nat} {asg : Nat → Option Nat} {sc tk come DR : Nat → Int32} (hS : St σ) (hI : DayI σ N K A D F R asg sc tk come DR)
    (h : ∀ σ', DayM σ σ' N A D F R asg sc tk come DR (fun a => bgM DR asg a N) → (∀ f, f ≠ 2 → f ≠ 12 → f ≠ 29 → f ≠ 55 → gI σ' 13 f 0 = gI σ 13 f 0) → post (some (xI (laM (fun q => match asg q with | some a => bgM DR asg a N + tk a | none => 0) asg N))) σ') :
    AW G l M_X12_step (d + 1) post σ 0 0 154 [some (xR (some (13, 0))), none, none, none, some (xI 0), some (xI 0), none, none, none] [] := by
  obtain ⟨hC, h2, hD, h49, h12, hF, h55, hask, hpers⟩ := id hI
  obtain ⟨hc, hk', hK, hN, h1'⟩ := id hC
  have tail : ∀ (f p : Nat) (σ1 : AS), 40 - p = f → N ≤ p → p ≤ 40 → RowI σ σ1 N A D F R asg sc tk come DR (fun a => bgM DR asg a N) N → (∀ q, N ≤ q → q < p → gA σ1 26 27 (40 * D + q) = -1) → AW G l M_X12_step (d + 1) post σ1 0 0 429 [some (xR (some (13, 0))), none, none, none, some (xI (laM (fun q => match asg q with | some a => bgM DR asg a N + tk a | none => 0) asg N)), some (xI (nI p)), none, none, none] [] := by
    intro f
    induction f with
    | zero =>
      intro p σ1 hf hNp hp I B
      have e : p = 40 := by omega
      subst e
      obtain ⟨Z, i1, i2, i3, i4, i5, i6, i7, i8, i9⟩ := I
      have e2 : gI σ1 13 2 0 = nI D := (i8 2 (by decide) (by decide)).trans h2
      refine vc_X12_step_429 (d := d) (Z.st hS) ⟨fun _ => ?_, fun c => absurd (by decide) c⟩
      rw [e2, nI_1]
      have Z2 : MZ False PS QS σ (sI (sI σ1 13 2 0 (nI (D + 1))) 13 29 0 0) := (Z.set (Or.inr (Or.inl rfl))).set (Or.inr (Or.inr (Or.inr (Or.inl rfl))))
      refine m_nobody (R := False) (P := PS) (Q := QS) (Or.inl ⟨rfl, by omega⟩) (Z2.st hS) (fun σ2 Z3 o1 o2 o3 o4 => ?_)
      have g : ∀ x j, x ≠ 7 → gA σ2 26 x j = gA σ1 26 x j := fun x j hx => o1 x j hx
      have ff : ∀ f, f ≠ 2 → f ≠ 29 → gI σ2 13 f 0 = gI σ1 13 f 0 := fun f a1 a2 => by rw [o3, gI_o (by omega), gI_o (by omega)]
      refine h σ2 ⟨Z2.tr Z3, fun q hq a ha => ?_, fun q hq hn => ?_, fun q hn => ?_, fun x x1 x2 i hi => ?_, fun i hi => ?_, ?_, ?_, ?_, ?_, o4⟩ (fun f a1 a2 a3 a4 => ?_)
      · obtain ⟨⟨b1, b2, b3, b4, b5, b6⟩, c5, c6, c8, c9⟩ := i1 q hq a ha
        exact ⟨⟨(g 27 _ (by decide)).trans b1, (g 28 _ (by decide)).trans b2, (g 29 _ (by decide)).trans b3, (g 30 _ (by decide)).trans b4, (g 31 _ (by decide)).trans b5, (g 32 _ (by decide)).trans b6⟩, (g 5 _ (by decide)).trans c5, (g 6 _ (by decide)).trans c6, (g 8 _ (by decide)).trans c8, (g 9 _ (by decide)).trans c9⟩
      · rw [g 27 _ (by decide)]
        by_cases w : q < N
        · exact i2 q w (hn w)
        · exact B q (by omega) hq
      · rw [g 5 _ (by decide), g 6 _ (by decide)]; exact i3 q hn
      · rw [g x _ (by omega)]; exact i4 x x1 x2 i hi
      · rw [g 8 _ (by decide), g 9 _ (by decide)]; exact i5 i hi
      · exact (ff 12 (by decide) (by decide)).trans i6
      · exact (ff 55 (by decide) (by decide)).trans i7
      · rw [o3, gI_o (by decide), gI_self]
      · rw [o3, gI_self]
      · exact (ff f a1 a3).trans (i8 f a2 a4)
    | succ f ih =>
      intro p σ1 hf hNp hp I B
      obtain ⟨Z, i1, i2, i3, i4, i5, i6, i7, i8, i9⟩ := id I
      have e2 : gI σ1 13 2 0 = nI D := (i8 2 (by decide) (by decide)).trans h2
      refine vc_X12_step_429 (d := d) (Z.st hS) ⟨fun c => absurd ((nI_leI (a := 40) (b := p) (by decide) (by omega)).mp c) (by omega), fun _ => ?_⟩
      rw [e2, nI_40, nI_clamp (by omega), nI_1]
      refine ⟨vp_in_nI (by omega) (by decide), ih (p + 1) _ (by omega) (by omega) (by omega) ⟨Z.setA (by decide) (Or.inl ⟨rfl, by omega⟩), fun q hq a ha => ?_, fun q hq hn => ?_, fun q hn => ?_, fun x x1 x2 i hi => ?_, fun i hi => ?_, i6, i7, i8, fun x n1 n2 n3 n4 n5 i => ?_⟩ (fun q hq1 hq2 => ?_)⟩
      · obtain ⟨⟨b1, b2, b3, b4, b5, b6⟩, c5, c6, c8, c9⟩ := i1 q hq a ha
        exact ⟨⟨(gA_o (by omega)).trans b1, (gA_o (by omega)).trans b2, (gA_o (by omega)).trans b3, (gA_o (by omega)).trans b4, (gA_o (by omega)).trans b5, (gA_o (by omega)).trans b6⟩, (gA_o (by omega)).trans c5, (gA_o (by omega)).trans c6, (gA_o (by omega)).trans c8, (gA_o (by omega)).trans c9⟩
      · exact (gA_o (by omega)).trans (i2 q hq hn)
      · obtain ⟨c5, c6⟩ := i3 q hn
        exact ⟨(gA_o (by omega)).trans c5, (gA_o (by omega)).trans c6⟩
      · exact (gA_o (by omega)).trans (i4 x x1 x2 i hi)
      · obtain ⟨c5, c6⟩ := i5 i hi
        exact ⟨(gA_o (by omega)).trans c5, (gA_o (by omega)).trans c6⟩
      · exact (gA_o (by omega)).trans (i9 x n1 n2 n3 n4 n5 i)
      · by_cases w : q = p
        · subst w; exact gA_self
        · rw [gA_o (by omega)]; exact B q hq1 (by omega)
  have loop : ∀ (f p : Nat) (σ1 : AS), N - p = f → p ≤ N → RowI σ σ1 N A D F R asg sc tk come DR (fun a => bgM DR asg a N) p → AW G l M_X12_step (d + 1) post σ1 0 0 154 [some (xR (some (13, 0))), none, none, none, some (xI (laM (fun q => match asg q with | some a => bgM DR asg a N + tk a | none => 0) asg p)), some (xI (nI p)), none, none, none] [] := by
    intro f
    induction f with
    | zero =>
      intro p σ1 hf hp I
      have e : p = N := by omega
      subst e
      have e1 : gI σ1 13 1 0 = nI p := (I.2.2.2.2.2.2.2.2.1 1 (by decide) (by decide)).trans h1'
      refine vc_X12_step_154 (d := d) (I.1.st hS) ⟨fun _ => ?_, fun c => absurd (by rw [e1]; exact nI_le (Nat.le_refl _) (by omega)) c⟩
      rw [e1]
      exact tail (40 - p) p σ1 rfl (Nat.le_refl _) (by omega) I (fun q h1 h2 => by omega)
    | succ f ih =>
      intro p σ1 hf hp I
      have hpN : p < N := by omega
      have i8 := I.2.2.2.2.2.2.2.2.1
      have i9 := I.2.2.2.2.2.2.2.2.2
      have e1 : gI σ1 13 1 0 = nI N := (i8 1 (by decide) (by decide)).trans h1'
      have e2 : gI σ1 13 2 0 = nI D := (i8 2 (by decide) (by decide)).trans h2
      have e7 : ∀ q, q < N → gA (sA σ1 26 27 (40 * D + p) (-1)) 26 7 q = rI (asg q) := fun q hq => (gA_o (by omega)).trans ((i9 7 (by decide) (by decide) (by decide) (by decide) (by decide) q).trans (hc q hq))
      have rn : rI (asg p) = -1 ↔ asg p = none := rI_n hK (fun a ha => hk' p hpN a ha)
      have vp : vp_in (nI p) 40 := vp_in_nI (by omega) (by decide)
      have Z0 : MZ False PS QS σ (sA σ1 26 27 (40 * D + p) (-1)) := I.1.setA (by decide) (Or.inl ⟨rfl, by omega⟩)
      refine vc_X12_step_154 (d := d) (I.1.st hS) ⟨fun c => absurd ((nI_leI (a := N) (b := p) (by omega) (by omega)).mp (by rw [e1] at c; exact c)) (by omega), fun _ => ?_⟩
      rw [e2, nI_40, nI_clamp (n := 40 * D + p) (by omega), nI_clamp (n := p) (by omega), e7 p hpN]
      refine ⟨vp_in_nI (by omega) (by decide), vp, fun c => ?_, fun c => ?_⟩
      · obtain ⟨a, ha⟩ : ∃ a, asg p = some a := by
          cases z : asg p with
          | none => exact absurd (rn.mpr z) c
          | some x => exact ⟨x, rfl⟩
        have haK := hk' p hpN a ha
        have inner : ∀ (f q : Nat), N - q = f → q ≤ N → AW G l M_X12_step (d + 1) post (sA σ1 26 27 (40 * D + p) (-1)) 0 0 203 [some (xR (some (13, 0))), none, none, none, some (xI (laM (fun q => match asg q with | some a => bgM DR asg a N + tk a | none => 0) asg p)), some (xI (nI p)), some (xI (nI (40 * D + p))), some (xI (bgM DR asg a q)), some (xI (nI q))] [] := by
          intro f
          induction f with
          | zero =>
            intro q hf2 hq
            have e : q = N := by omega
            rw [e]
            refine m_row (d := d) (kk := 0) (nn := 0) (a := a) (bg := fun a => bgM DR asg a N) hS hI hpN ha I (fun σ' I' => ?_)
            have z := ih (p + 1) σ' (by omega) (by omega) I'
            rw [laM, if_neg (by rw [ha]; simp)] at z
            rw [ha] at z
            exact z
          | succ f ih2 =>
            intro q hf2 hq
            have hqN : q < N := by omega
            have z := ih2 (q + 1) (by omega) (by omega)
            rw [bgM] at z
            refine vc_X12_step_203 (d := d) (Z0.st hS) ⟨fun c2 => absurd ((nI_leI (a := N) (b := q) (by omega) (by omega)).mp (by
              have : gI (sA σ1 26 27 (40 * D + p) (-1)) 13 1 0 = nI N := e1
              rw [this] at c2; exact c2)) (by omega), fun _ => ⟨vp_in_nI (by omega) (by decide), vp, ?_⟩⟩
            rw [nI_clamp (n := q) (by omega), nI_clamp (n := p) (by omega), e7 q hqN, e7 p hpN, nI_1, ha]
            have rq : rI (asg q) = rI (some a) ↔ asg q = some a := rI_a hK (fun a ha => hk' q hqN a ha) haK
            refine ⟨fun c2 => ?_, fun c2 => ⟨vp_in_nI (by omega) (by decide), ?_⟩⟩
            · rw [if_neg (fun y => c2 (rq.mpr y))] at z; exact z
            · have cq := rq.mp c2
              have e35 : gA (sA σ1 26 27 (40 * D + p) (-1)) 26 35 q = DR q := (gA_o (by omega)).trans ((i9 35 (by decide) (by decide) (by decide) (by decide) (by decide) q).trans (hpers q hqN (by rw [cq]; simp)).2)
              rw [if_pos cq] at z
              rw [e35]
              exact z
        have z := inner N 0 rfl (Nat.zero_le _)
        rw [show bgM DR asg a 0 = 0 from rfl, nI_0] at z
        exact z
      · have pn := rn.mp c
        rw [nI_1]
        obtain ⟨Z, i1, i2, i3, i4, i5, i6, i7, i8, i9⟩ := id I
        have ec : cAll asg (p + 1) = cAll asg p := by rw [cAll, if_pos pn, Nat.add_zero]
        have z := ih (p + 1) (sA σ1 26 27 (40 * D + p) (-1)) (by omega) (by omega) ⟨Z0, fun q hq a ha => ?_, fun q hq hn => ?_, fun q hn => ?_, fun x x1 x2 i hi => ?_, fun i hi => ?_, by rw [ec]; exact i6, by rw [ec]; exact i7, i8, fun x n1 n2 n3 n4 n5 i => ?_⟩
        · rw [laM, if_pos pn] at z
          exact z
        · have w : q ≠ p := fun e => by subst e; rw [pn] at ha; cases ha
          obtain ⟨⟨b1, b2, b3, b4, b5, b6⟩, c5, c6, c8, c9⟩ := i1 q (by omega) a ha
          exact ⟨⟨(gA_o (by omega)).trans b1, (gA_o (by omega)).trans b2, (gA_o (by omega)).trans b3, (gA_o (by omega)).trans b4, (gA_o (by omega)).trans b5, (gA_o (by omega)).trans b6⟩, (gA_o (by omega)).trans c5, (gA_o (by omega)).trans c6, (gA_o (by omega)).trans c8, (gA_o (by omega)).trans c9⟩
        · by_cases w : q = p
          · subst w; exact gA_self
          · exact (gA_o (by omega)).trans (i2 q (by omega) hn)
        · by_cases w : q = p
          · subst w
            obtain ⟨c5, c6⟩ := i3 q (fun y => absurd y (Nat.lt_irrefl q))
            exact ⟨(gA_o (by omega)).trans c5, (gA_o (by omega)).trans c6⟩
          · obtain ⟨c5, c6⟩ := i3 q (fun y => hn (by omega))
            exact ⟨(gA_o (by omega)).trans c5, (gA_o (by omega)).trans c6⟩
        · exact (gA_o (by omega)).trans (i4 x x1 x2 i hi)
        · obtain ⟨c5, c6⟩ := i5 i hi
          exact ⟨(gA_o (by omega)).trans c5, (gA_o (by omega)).trans c6⟩
        · exact (gA_o (by omega)).trans (i9 x n1 n2 n3 n4 n5 i)
  have z := loop N 0 σ rfl (Nat.zero_le _) ⟨MZ.rf, fun q hq => absurd hq (Nat.not_lt_zero q), fun q hq => absurd hq (Nat.not_lt_zero q), fun q _ => ⟨rfl, rfl⟩, fun _ _ _ _ _ => rfl, fun _ _ => ⟨rfl, rfl⟩, h12, h55, fun _ _ _ => rfl, fun _ _ _ _ _ _ _ => rfl⟩
  rw [nI_0] at z
  exact z
end MSTEP2
