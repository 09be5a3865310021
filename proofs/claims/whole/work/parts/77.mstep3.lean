/-! The model's step. -/
section MSTEP3
variable {G : GG} {l : Launch} {d : Nat} {post : Option AVal → AS → Prop} {σ : AS} {kk nn : Nat} {N K : Nat}
def QC : Nat → Nat → Prop := fun c a => c = 26 ∧ a = 34
/-- the minute of coming, by the model's asks -/
def comeM (asg : Nat → Option Nat) (mi : Nat → Int32) (seed day : Int32) (p : Nat) : Int32 := match asg p with
  | some a => mi a + late seed day p
  | none => 0
theorem m_step {A D F R : Nat} {asg : Nat → Option Nat} {sc tk mi slow : Nat → Int32} {x seed : Int32} {ord : Nat → Nat → Nat} (hS : St σ) (hC : CalM σ N K asg) (h2 : gI σ 13 2 0 = nI D) (hD : D ≤ 60) (h49 : gI σ 13 49 0 = nI A) (h12 : gI σ 13 12 0 = nI F) (hF : D < 60 → F + 40 ≤ 2600) (h55 : gI σ 13 55 0 = nI R) (hask : ∀ a, a < K → gA σ 26 10 a = sc a ∧ gA σ 26 12 a = tk a ∧ gA σ 26 11 a = mi a) (hs : ∀ p, p < N → gA σ 26 4 p = slow p)
    (h0 : ¬ ((¬ x < 1 ∧ ¬ 5 < x) ∧ cAll asg N ≠ 0 ∧ D < 60) → post (some (xI (-1))) (T0 σ))
    (h1 : ∀ dr, x = nI dr → 1 ≤ dr → dr ≤ 5 → cAll asg N ≠ 0 → D < 60 → ∃ ord, OrdR asg (comeM asg mi seed (nI D)) N (cAll asg N) ord ∧ ∀ σ' DR, (∀ i, i < cAll asg N → DR (ord i) = tSj dr (fun j => comeM asg mi seed (nI D) (ord j)) (fun j => slow (ord j)) i) → DayM σ σ' N A D F R asg sc tk (comeM asg mi seed (nI D)) DR (fun a => bgM DR asg a N) → (∀ f, f ≠ 0 → f ≠ 2 → f ≠ 12 → f ≠ 29 → f ≠ 55 → gI σ' 13 f 0 = gI σ 13 f 0) → gI σ' 13 0 0 = 0 → post (some (xI (laM (fun q => match asg q with | some a => bgM DR asg a N + tk a | none => 0) asg N))) σ') : AMet G l M_X12_step (d + 2) 0 0 [xR (some (13, 0)), xI x, xI seed] σ post := by
  obtain ⟨hc, hk', hK, hN, h1'⟩ := id hC
  have e1 : gI (T0 σ) 13 1 0 = nI N := (T0_f (by decide)).trans h1'
  have e2 : gI (T0 σ) 13 2 0 = nI D := (T0_f (by decide)).trans h2
  have hcl := cAll_le (asg := asg) N
  have any : ∀ (f p : Nat), N - p = f → p ≤ N → AW G l M_X12_step (d + 2) post (T0 σ) 0 0 10 [some (xR (some (13, 0))), some (xI x), some (xI seed), some (xI (if cAll asg p = 0 then 0 else 1)), some (xI (nI p)), none, none, none, none] [] := by
    intro f
    induction f with
    | zero =>
      intro p hf hp
      have e : p = N := by omega
      subst e
      refine vc_X12_step_10 (d := d + 1) (show St (T0 σ) from hS) ⟨fun _ => ?_, fun c => absurd (by rw [e1]; exact nI_le (Nat.le_refl _) (by omega)) c⟩
      refine m_within (fun w => ⟨fun _ => h0 (fun q => w q.1), fun q => absurd rfl q⟩) (fun w => ⟨fun q => absurd q (by decide), fun _ => ⟨fun c => h0 (fun q => ?_), fun c => ⟨fun c2 => ?_, fun c2 => h0 (fun q => ?_)⟩⟩⟩)
      · rw [if_neg q.2.1] at c; exact absurd c (by decide)
      · have hca : cAll asg p ≠ 0 := fun z => by rw [if_pos z] at c; exact c rfl
        have hD6 : D < 60 := by
          rw [e2] at c2
          rcases Nat.lt_or_ge D 60 with q | q
          · exact q
          · have e : D = 60 := by omega
            subst e; exact absurd rfl c2
        obtain ⟨dr, hdr, edr⟩ := nI_of (x := x) (fun z => w.1 (Int32.lt_trans z (by decide)))
        have dr1 : 1 ≤ dr := by
          have := Int32.not_lt.mp w.1
          rw [edr] at this
          exact (nI_leI (a := 1) (by decide) hdr).mp this
        have dr5 : dr ≤ 5 := by
          have := Int32.not_lt.mp w.2
          rw [edr] at this
          exact (nI_leI (b := 5) hdr (by decide)).mp this
        obtain ⟨ord, hO, hh⟩ := h1 dr edr dr1 dr5 hca hD6
        have rn : ∀ q, q < p → (rI (asg q) = -1 ↔ asg q = none) := fun q hq => rI_n hK (fun a ha => hk' q hq a ha)
        have coming : ∀ (f q : Nat) (σ1 : AS), p - q = f → q ≤ p → MZ False (fun f => f = 0) QC σ σ1 → gI σ1 13 0 0 = 0 → (∀ y, y < q → asg y ≠ none → gA σ1 26 34 y = comeM asg mi seed (nI D) y) → AW G l M_X12_step (d + 2) post σ1 0 0 73 [some (xR (some (13, 0))), some (xI x), some (xI seed), none, some (xI (nI q)), none, none, none, none] [] := by
          intro f
          induction f with
          | zero =>
            intro q σ1 hf2 hq Z z0 B
            have e : q = p := by omega
            subst e
            have k1 : gI σ1 13 1 0 = nI q := (Z.2.2.2.2.1 1 0 (by decide)).trans h1'
            have C1 : CalM σ1 q K asg := ⟨fun y hy => (Z.2.2.2.2.2 26 7 y (by decide) (fun z => by have := z.2; omega)).trans (hc y hy), hk', hK, hN, k1⟩
            refine vc_X12_step_73 (d := d + 1) (Z.st hS) ⟨fun _ => ?_, fun c => absurd (by rw [k1]; exact nI_le (Nat.le_refl _) (by omega)) c⟩
            rw [edr]
            refine m_dresses (d := d) (come := comeM asg mi seed (nI D)) (slow := slow) dr1 dr5 (Z.st hS) C1 B (fun y hy => (Z.2.2.2.2.2 26 4 y (by decide) (fun z => by have := z.2; omega)).trans (hs y hy)) hO (fun σ2 Z2 T => ?_)
            have C2 : CalM σ2 q K asg := ⟨fun y hy => (Z2.2.2.2.2.2 26 7 y (by decide) (fun z => by rcases z with z | z <;> omega)).trans (C1.1 y hy), hk', hK, hN, (Z2.2.2.2.2.1 1 0 (fun z => z)).trans k1⟩
            have fi : ∀ f, f ≠ 0 → gI σ2 13 f 0 = gI σ 13 f 0 := fun f hf0 => (Z2.2.2.2.2.1 f 0 (fun z => z)).trans (Z.2.2.2.2.1 f 0 hf0)
            have ar : ∀ a j, a ≠ 33 → a ≠ 34 → a ≠ 35 → gA σ2 26 a j = gA σ 26 a j := fun a j y1 y2 y3 => (Z2.2.2.2.2.2 26 a j (by decide) (fun z => by rcases z with z | z <;> omega)).trans (Z.2.2.2.2.2 26 a j (by decide) (fun z => y2 z.2))
            have I2 : DayI σ2 q K A D F R asg sc tk (comeM asg mi seed (nI D)) (fun y => gA σ2 26 35 y) := ⟨C2, (fi 2 (by decide)).trans h2, hD6, (fi 49 (by decide)).trans h49, (fi 12 (by decide)).trans h12, hF hD6, (fi 55 (by decide)).trans h55, fun a ha => ⟨(ar 10 a (by decide) (by decide) (by decide)).trans (hask a ha).1, (ar 12 a (by decide) (by decide) (by decide)).trans (hask a ha).2.1⟩, fun y hy cy => ⟨(Z2.2.2.2.2.2 26 34 y (by decide) (fun z => by rcases z with z | z <;> omega)).trans (B y hy cy), rfl⟩⟩
            refine m_rows (d := d + 1) (Z2.st (Z.st hS)) I2 (fun σ3 M3 f3 => hh σ3 _ T ⟨?_, fun y hy a ha => ?_, M3.2.2.1, fun y hy => ?_, fun x x1 x2 i hi => ?_, fun i hi => ?_, M3.2.2.2.2.2.2.1, M3.2.2.2.2.2.2.2.1, M3.2.2.2.2.2.2.2.2.1, M3.2.2.2.2.2.2.2.2.2.1, M3.2.2.2.2.2.2.2.2.2.2⟩ (fun f a0 a1 a2 a3 a4 => (f3 f a1 a2 a3 a4).trans (fi f a0)) ?_)
            · exact ((Z.mono (Q' := QS) id (fun f z => (Or.inl z : PS f)) (fun c a z => Or.inl ⟨z.1, by have := z.2; omega⟩)).tr (Z2.mono (Q' := QS) id (fun f z => z.elim) (fun c a z => by rcases z with z | z; exact Or.inl ⟨z.1, by omega⟩; exact Or.inr z))).tr M3.1
            · obtain ⟨r1, r2, r3, r4, r5⟩ := M3.2.1 y hy a ha
              exact ⟨r1, by rw [r2, ar 5 y (by decide) (by decide) (by decide)], r3, r4, r5⟩
            · rw [← ar 5 y (by decide) (by decide) (by decide), ← ar 6 y (by decide) (by decide) (by decide)]
              exact M3.2.2.2.1 y hy
            · rw [M3.2.2.2.2.1 x x1 x2 i hi]; exact ar x i (by omega) (by omega) (by omega)
            · rw [← ar 8 i (by decide) (by decide) (by decide), ← ar 9 i (by decide) (by decide) (by decide)]
              exact M3.2.2.2.2.2.1 i hi
            · exact (f3 0 (by decide) (by decide) (by decide) (by decide)).trans ((Z2.2.2.2.2.1 0 0 (fun z => z)).trans z0)
          | succ f ih =>
            intro q σ1 hf2 hq Z z0 B
            have hqN : q < p := by omega
            have k1 : gI σ1 13 1 0 = nI p := (Z.2.2.2.2.1 1 0 (by decide)).trans h1'
            have k2 : gI σ1 13 2 0 = nI D := (Z.2.2.2.2.1 2 0 (by decide)).trans h2
            have k7 : gA σ1 26 7 q = rI (asg q) := (Z.2.2.2.2.2 26 7 q (by decide) (fun z => by have := z.2; omega)).trans (hc q hqN)
            have vq : vp_in (nI q) 40 := vp_in_nI (by omega) (by decide)
            refine vc_X12_step_73 (d := d + 1) (Z.st hS) ⟨fun c => absurd ((nI_leI (a := p) (b := q) (by omega) (by omega)).mp (by rw [k1] at c; exact c)) (by omega), fun _ => ⟨vq, ?_⟩⟩
            rw [nI_clamp (n := q) (by omega), k7, k2, nI_1]
            refine ⟨fun c => ih (q + 1) σ1 (by omega) (by omega) Z z0 (fun y hy cy => ?_), fun c => ?_⟩
            · by_cases w : y = q
              · subst w; exact absurd ((rn y hqN).mp c) cy
              · exact B y (by omega) cy
            · obtain ⟨a, ha⟩ : ∃ a, asg q = some a := by
                cases z : asg q with
                | none => exact absurd ((rn q hqN).mpr z) c
                | some x => exact ⟨x, rfl⟩
              have haK := hk' q hqN a ha
              have ea : rI (asg q) = nI a := by rw [ha]; rfl
              have k11 : gA σ1 26 11 a = mi a := (Z.2.2.2.2.2 26 11 a (by decide) (fun z => by have := z.2; omega)).trans (hask a haK).2.2
              rw [ea, nI_clamp (n := a) (by omega), k11]
              refine ⟨vq, vp_in_nI (by omega) (by decide), m_next_ ⟨Z.st hS, vq, ?_⟩⟩
              refine ih (q + 1) _ (by omega) (by omega) (Z.setA (by decide) ⟨rfl, rfl⟩) z0 (fun y hy cy => ?_)
              by_cases w : y = q
              · subst w
                rw [gA_self]
                unfold comeM late
                rw [ha]
              · rw [gA_o (fun z => w z.2.2)]; exact B y (by omega) cy
        have z := coming p 0 (T0 σ) rfl (Nat.zero_le _) (T0_z rfl) T0_0 (fun y hy => absurd hy (Nat.not_lt_zero y))
        rw [nI_0] at z
        exact z
      · rw [e2] at c2
        have := (nI_eq (b := 60) (by omega) (by decide)).mp c2
        omega
    | succ f ih =>
      intro p hf hp
      have hpN : p < N := by omega
      have z := ih (p + 1) (by omega) (by omega)
      rw [cAll] at z
      have rn : rI (asg p) = -1 ↔ asg p = none := rI_n hK (fun a ha => hk' p hpN a ha)
      refine vc_X12_step_10 (d := d + 1) (show St (T0 σ) from hS) ⟨fun c => absurd ((nI_leI (a := N) (b := p) (by omega) (by omega)).mp (by rw [e1] at c; exact c)) (by omega), fun _ => ⟨fun c => ?_, fun c => ⟨vp_in_nI (by omega) (by decide), ?_⟩⟩⟩
      · rw [nI_1]
        have ne : ¬ cAll asg p = 0 := fun q => by rw [if_pos q] at c; exact c rfl
        rw [if_neg (by omega)] at z
        exact z
      · have e0 : cAll asg p = 0 := by
          by_cases q : cAll asg p = 0
          · exact q
          · rw [if_neg q] at c; exact absurd c (by decide)
        have e7 : gA (T0 σ) 26 7 p = rI (asg p) := hc p hpN
        rw [nI_clamp (n := p) (by omega), e7, nI_1]
        refine ⟨fun c2 => ?_, fun c2 => ?_⟩
        · rw [if_pos (rn.mp c2), e0] at z; exact z
        · rw [if_neg (fun q => c2 (rn.mpr q)), e0] at z; exact z
  refine AMet.of rfl (Nat.le_of_ble_eq_true rfl) (vc_X12_step (d := d + 1) ?_)
  have z := any N 0 rfl (Nat.zero_le _)
  rw [show cAll asg 0 = 0 from rfl, if_pos rfl, nI_0] at z
  exact z
end MSTEP3
