/-! The coupling over a day: the class's side, the data. -/
section DAY
variable {D : Nat} {σ : AS}
variable {N K q a0 n an A R F T mvn lkn : Nat} {asg : Nat → Option Nat} {b ab fP fS mv lk : Nat → Int32} {per : Nat → Nat → Int32} {ax tq tc : Nat → Nat} {tt : Nat → Nat → Nat} {tf : Nat → Nat → Nat → Int32} {w : Nat → Nat} {rf : Nat → Nat → Int32} {rg : Nat → Option Nat} {Rs : Nat → Nat} {pl : Int32}
theorem timN_iff {P S : Nat → Int32} {p v : Int32} : ∀ k, 0 < timN P S p v k ↔ ∃ i, i < k ∧ P i = p ∧ S i = v
  | 0 => ⟨fun h => absurd h (Nat.lt_irrefl 0), fun ⟨i, hi, _⟩ => absurd hi (Nat.not_lt_zero i)⟩
  | k + 1 => by
    rw [timN]
    by_cases c : P k = p ∧ S k = v
    · rw [if_pos c]
      exact ⟨fun _ => ⟨k, by omega, c⟩, fun _ => by omega⟩
    · rw [if_neg c, Nat.add_zero, timN_iff k]
      constructor
      · rintro ⟨i, hi, e⟩; exact ⟨i, by omega, e⟩
      · rintro ⟨i, hi, e⟩
        refine ⟨i, ?_, e⟩
        by_cases z : i = k
        · subst z; exact absurd e c
        · omega
/-- whose the records are, with those of the day -/
def wD (w : Nat → Nat) (R N : Nat) (asg : Nat → Option Nat) : Nat → Nat := fun r => if r < R then w r else tpF asg N (r - R)
def rgD (rg : Nat → Option Nat) (R A : Nat) : Nat → Option Nat := fun r => if r < R then rg r else (if A = 0 then none else some (A - 1))
def RsD (Rs : Nat → Nat) (D m : Nat) : Nat → Nat := fun d => if d = D + 1 then Rs D + m else Rs d
theorem StF.row {σ' : AS} {r m : Nat} {y : Nat → Int32} (h : StF σ σ') (hS : St σ) (hS' : St σ') (hr : r < 6) (h2 : r ≠ 2) (h3 : r ≠ 3) (k : RW σ r m y) : RW σ' r m y := by
  obtain ⟨k1, k2, k3⟩ := k.out hS hr
  refine RW.mk hS' hr ((h.2.2.1 r h2 h3).trans k1) k2 (fun i hi => ?_)
  rw [h.2.2.2.1 _ i (fun e => h2 (rArr_inj hr (by decide) e)) (fun e => h3 (rArr_inj hr (by decide) e)) (by unfold rArr; split <;> omega)]
  exact k3 i hi
theorem CI.day {dr : Nat} {seed : Int32} {ord : Nat → Nat} {σ' : AS} (h : CI σ D N K q a0 n an A R F T mvn lkn asg b ab fP fS mv lk per ax tq tc tt tf w rf rg pl) (hN : N ≤ 40) (hD : gI σ' 12 10 0 = nI (D + 1)) (Dy : DayR σ σ' N K a0 dr F A asg ax fP fS seed (nI D) ord) : CI σ' (D + 1) N 0 (cnt σ 0) 0 n an A (R + cAll asg N) (F + cAll asg N) T mvn lkn (fun _ => none) b ab (catN fP F (fun k => nI (tpF asg N k))) (catN fS F (fun k => gI σ 2 1 (a0 + akF asg (tpF asg N k)))) mv lk (fun p f => gI σ' 6 f p) ax tq tc tt tf (wD w R N asg) (fun r f => gI σ' 11 f r) (rgD rg R A) pl := by
  obtain ⟨c1, c2, c3, ⟨c4, c5, c6⟩, c7, c8, c9, c10, c11⟩ := h
  obtain ⟨Fr, P1, A1, W1, O1, per1, dj, unc, r2, r3, al5, k11⟩ := Dy
  have hS := c1.1
  have S1 := P1.1
  have k := Fr.1
  have al : ∀ q n e, q ≠ 3 → q ≠ 4 → q ≠ 5 → q < cnt σ 0 → AL σ q n e → AL σ' q n e := Fr.2.2.2.2.2.2.1
  have c0 : cnt σ' 0 = cnt σ 0 + 1 := Fr.2.2.2.2.2.1
  have hR : cnt σ 11 = R := c11.2.1
  refine ⟨P1, A1, ⟨W1, by have := c3.2.1; omega, by omega, Or.inr (by have := c3.2.1; omega)⟩, ⟨hD, ((k 5 (by decide)).2.1 2 0).trans c5, ((k 10 (by decide)).2.1 1 0).trans c6⟩, ⟨Fr.row hS S1 (by decide) (by decide) (by decide) c7.1, r2, r3, Fr.row hS S1 (by decide) (by decide) (by decide) c7.2.2.2.1, Fr.row hS S1 (by decide) (by decide) (by decide) c7.2.2.2.2⟩, fun p hp f _ => rfl, fun a ha => absurd ha (Nat.not_lt_zero a), c10.lq (by have := c3.2.1; omega) (by omega) (fun q n e hq hl z => al q n e (by omega) (by omega) (by omega) hl z) (k 1 (by decide)) (k 9 (by decide)), ⟨by rw [← hR]; exact al5, by rw [k11, hR], fun r hr => ?_⟩⟩
  by_cases c : r < R
  · obtain ⟨e1, e2, e3⟩ := c11.2.2 r c
    obtain ⟨g1, g2⟩ := Fr.2.2.2.2.1 r (by omega)
    unfold wD rgD
    rw [if_pos c, if_pos c]
    exact ⟨(g2 0).trans e1, fun f _ => rfl, (g2 8).trans e3⟩
  · obtain ⟨s1, s2, s3⟩ := tpF_spec (asg := asg) (N := N) (k := r - R) (by omega)
    obtain ⟨a, ha⟩ : ∃ a, asg (tpF asg N (r - R)) = some a := by
      cases z : asg (tpF asg N (r - R)) with
      | none => exact absurd z s2
      | some a => exact ⟨a, rfl⟩
    obtain ⟨y1, y2, y3, y4, y5, y6, y7, -⟩ := per1 _ s1 a ha
    rw [s3, hR, show R + (r - R) = r by omega] at y1 y7
    unfold wD rgD
    rw [if_neg c, if_neg c]
    refine ⟨y1, fun f _ => rfl, y7.trans ?_⟩
    by_cases e : A = 0
    · rw [if_pos e, if_pos e]; rfl
    · rw [if_neg e, if_neg e]; rfl
theorem tpF_lt {asg : Nat → Option Nat} {N k k' : Nat} (h : k < k') (hk : k' < cAll asg N) : tpF asg N k < tpF asg N k' := by
  obtain ⟨a1, a2, a3⟩ := tpF_spec (asg := asg) (N := N) (k := k) (by omega)
  obtain ⟨b1, b2, b3⟩ := tpF_spec (asg := asg) (N := N) (k := k') hk
  rcases Nat.lt_or_ge (tpF asg N k) (tpF asg N k') with q | q
  · exact q
  · have := cAll_mono (asg := asg) (p := tpF asg N k') (tpF asg N k) q
    omega
theorem OK.day {dr : Nat} {seed : Int32} {ord : Nat → Nat} {σ' : AS} (hC : CI σ D N K q a0 n an A R F T mvn lkn asg b ab fP fS mv lk per ax tq tc tt tf w rf rg pl) (hO : OK D N K n an A R F T mvn lkn b ab fP fS per tc tf w rf rg Rs) (hD : D < 60) (Dy : DayR σ σ' N K a0 dr F A asg ax fP fS seed (nI D) ord) : OK (D + 1) N 0 n an A (R + cAll asg N) (F + cAll asg N) T mvn lkn b ab (catN fP F (fun k => nI (tpF asg N k))) (catN fS F (fun k => gI σ 2 1 (a0 + akF asg (tpF asg N k)))) (fun p f => gI σ' 6 f p) tc tf (wD w R N asg) (fun r f => gI σ' 11 f r) (rgD rg R A) (RsD Rs D (cAll asg N)) := by
  obtain ⟨o1, o2, o3, o4, o5, o6, o7, o8, o9⟩ := id hO
  obtain ⟨c1, c2, c3, ⟨c4, c5, c6⟩, c7, c8, c9, c10, c11⟩ := hC
  obtain ⟨Fr, P1, A1, W1, O1, per1, dj, unc, r2, r3, al5, k11⟩ := Dy
  have hR : cnt σ 11 = R := c11.2.1
  have hcl := cAll_le (asg := asg) N
  have scOf : ∀ p, p < N → ∀ a, asg p = some a → ∃ s, s ≤ 19 ∧ gI σ 2 1 (a0 + a) = nI s := fun p hp a ha => by
    have haK := c2.2.1 p hp a ha
    obtain ⟨q1, q2, -, -⟩ := o4.2.2 a haK
    obtain ⟨-, ⟨s, hs, e⟩, -⟩ := hd_facts q1 q2
    exact ⟨s, hs, (c9 a haK).1.trans e⟩
  have some' : ∀ p, asg p ≠ none → ∃ a, asg p = some a := fun p h => by
    cases z : asg p with
    | none => exact absurd z h
    | some a => exact ⟨a, rfl⟩
  have unc' : ∀ p, p < N → asg p = none → ∀ f, gI σ' 6 f p = gI σ 6 f p := unc
  refine ⟨by omega, o2, o3, ⟨Nat.zero_le _, o4.2.1, fun a ha => absurd ha (Nat.not_lt_zero a)⟩, o5, fun p hp => ?_, ⟨fun p hp v hv => ?_, fun i hi => ?_⟩, ⟨?_, ?_, fun d hd => ?_, fun r hr => ?_, fun d hd r h1 h2 => ?_, fun d hd r r' h1 h2 h3 => ?_⟩, ⟨o9.1, by omega, o9.2.2⟩⟩
  · obtain ⟨e0, ⟨s, hs, es⟩, ⟨t, ht, et⟩, e6⟩ := o6 p hp
    have g : ∀ f, f ≠ 7 → f ≠ 8 → f ≠ 9 → f ≠ 10 → gI σ' 6 f p = per p f := fun f a1 a2 a3 a4 => (Fr.2.1 f p a1 a2 a3).trans (c8 p hp f a4)
    dsimp only
    refine ⟨(g 0 (by decide) (by decide) (by decide) (by decide)).trans e0, ⟨s, hs, (g 5 (by decide) (by decide) (by decide) (by decide)).trans es⟩, ?_, by rw [g 6 (by decide) (by decide) (by decide) (by decide)]; exact e6⟩
    by_cases c : asg p = none
    · exact ⟨t, by omega, (unc' p hp c 7).trans ((c8 p hp 7 (by decide)).trans et)⟩
    · obtain ⟨a, ha⟩ := some' p c
      obtain ⟨y1, y2, y3, y4, y5, y6, y7, y8, -⟩ := per1 p hp a ha
      refine ⟨t + 1, by omega, ?_⟩
      rw [y8, c8 p hp 7 (by decide), et, nI_1]
  · dsimp only
    have old := o7.1 p hp v hv
    rw [timN_iff] at old ⊢
    have cat : (∃ i, i < F + cAll asg N ∧ catN fP F (fun k => nI (tpF asg N k)) i = nI p ∧ catN fS F (fun k => gI σ 2 1 (a0 + akF asg (tpF asg N k))) i = nI v) ↔ (∃ i, i < F ∧ fP i = nI p ∧ fS i = nI v) ∨ ∃ a, asg p = some a ∧ gI σ 2 1 (a0 + a) = nI v := by
      constructor
      · rintro ⟨i, hi, e1, e2⟩
        unfold catN at e1 e2
        by_cases c : i < F
        · rw [if_pos c] at e1 e2; exact Or.inl ⟨i, c, e1, e2⟩
        · rw [if_neg c] at e1 e2
          dsimp only at e1 e2
          obtain ⟨s1, s2, s3⟩ := tpF_spec (asg := asg) (N := N) (k := i - F) (by omega)
          have ep := (nI_eq (by omega) (by omega)).mp e1
          obtain ⟨a, ha⟩ := some' _ s2
          rw [ep] at ha e2
          refine Or.inr ⟨a, ha, ?_⟩
          unfold akF at e2
          rw [ha] at e2; exact e2
      · rintro (⟨i, hi, e1, e2⟩ | ⟨a, ha, e⟩)
        · exact ⟨i, by omega, by unfold catN; rw [if_pos hi]; exact e1, by unfold catN; rw [if_pos hi]; exact e2⟩
        · have lt : cAll asg p < cAll asg N := by
            have := cAll_mono (asg := asg) (p := p + 1) N (by omega)
            rw [cAll, if_neg (by rw [ha]; simp)] at this
            omega
          have tp := tpF_of (asg := asg) (N := N) hp (by rw [ha]; simp)
          refine ⟨F + cAll asg p, by omega, ?_, ?_⟩
          · unfold catN
            rw [if_neg (by omega), show F + cAll asg p - F = cAll asg p by omega]
            dsimp only
            rw [tp]
          · unfold catN
            rw [if_neg (by omega), show F + cAll asg p - F = cAll asg p by omega]
            dsimp only
            rw [tp]
            unfold akF
            rw [ha]; exact e
    rw [cat, old]
    by_cases c : asg p = none
    · rw [unc' p hp c 9, c8 p hp 9 (by decide)]
      constructor
      · rintro (z | ⟨a, ha, -⟩)
        · exact z
        · rw [c] at ha; cases ha
      · exact fun z => Or.inl z
    · obtain ⟨a, ha⟩ := some' p c
      obtain ⟨y1, y2, y3, y4, y5, y6, y7, y8, y9, y10⟩ := per1 p hp a ha
      obtain ⟨s, hs, es⟩ := scOf p hp a ha
      rw [y10, c8 p hp 9 (by decide), es, jb_set _ (by omega) (by omega), Bool.or_eq_true_iff, decide_eq_true_iff]
      constructor
      · rintro (z | ⟨a', ha', e'⟩)
        · exact Or.inl z
        · rw [ha] at ha'; cases ha'
          rw [es] at e'
          exact Or.inr ((nI_eq (by omega) (by omega)).mp e').symm
      · rintro (z | z)
        · exact Or.inl z
        · exact Or.inr ⟨a, ha, by rw [es, z]⟩
  · unfold catN
    by_cases c : i < F
    · rw [if_pos c]; exact o7.2 i c
    · rw [if_neg c]
      exact ⟨_, (tpF_spec (asg := asg) (N := N) (k := i - F) (by omega)).1, rfl⟩
  · unfold RsD; rw [if_neg (by omega)]; exact o8.1
  · unfold RsD; rw [if_pos rfl, o8.2.1]
  · unfold RsD
    rw [if_neg (show ¬ d = D + 1 by omega)]
    by_cases c : d = D
    · subst c
      rw [if_pos rfl]
      have := hO.facts.1
      have := o8.2.1
      omega
    · rw [if_neg (by omega)]; exact o8.2.2.1 d (by omega)
  · unfold wD rgD
    dsimp only
    by_cases c : r < R
    · rw [if_pos c, if_pos c]
      obtain ⟨e1, e2, e3⟩ := o8.2.2.2.1 r c
      refine ⟨e1, e2, ?_⟩
      rw [((Fr.2.2.2.2.1 r (by omega)).1 3), (c11.2.2 r c).2.1 3 (by decide)]
      exact e3
    · rw [if_neg c, if_neg c]
      obtain ⟨s1, s2, s3⟩ := tpF_spec (asg := asg) (N := N) (k := r - R) (by omega)
      obtain ⟨a, ha⟩ := some' _ s2
      obtain ⟨y1, y2, y3, -⟩ := per1 _ s1 a ha
      obtain ⟨s, hs, es⟩ := scOf _ s1 a ha
      refine ⟨s1, fun g hg => ?_, ?_⟩
      · by_cases e : A = 0
        · rw [if_pos e] at hg; cases hg
        · rw [if_neg e] at hg; cases hg; omega
      · rw [s3, hR, show R + (r - R) = r by omega] at y3
        rw [y3, es]
        exact fun z => absurd (show nI s < 0 by rw [z]; decide) (nI_pos (by omega))
  · unfold RsD at h1 h2
    rw [if_neg (show ¬ d = D + 1 by omega)] at h1
    dsimp only
    by_cases c : d = D
    · subst c
      rw [if_pos rfl] at h2
      have e := o8.2.1
      obtain ⟨s1, s2, s3⟩ := tpF_spec (asg := asg) (N := N) (k := r - R) (by omega)
      obtain ⟨a, ha⟩ := some' _ s2
      obtain ⟨y1, y2, -⟩ := per1 _ s1 a ha
      rw [s3, hR, show R + (r - R) = r by omega] at y2
      exact y2
    · rw [if_neg (by omega)] at h2
      have := Rs_mono o8 D (d + 1) (by omega) (Nat.le_refl D)
      have e := o8.2.1
      rw [((Fr.2.2.2.2.1 r (by omega)).1 1), (c11.2.2 r (by omega)).2.1 1 (by decide)]
      exact o8.2.2.2.2.1 d (by omega) r h1 h2
  · unfold RsD at h1 h3
    rw [if_neg (show ¬ d = D + 1 by omega)] at h1
    unfold wD
    by_cases c : d = D
    · subst c
      rw [if_pos rfl] at h3
      have e := o8.2.1
      rw [if_neg (by omega), if_neg (by omega)]
      exact tpF_lt (by omega) (by omega)
    · rw [if_neg (by omega)] at h3
      have := Rs_mono o8 D (d + 1) (by omega) (Nat.le_refl D)
      have e := o8.2.1
      rw [if_pos (by omega), if_pos (by omega)]
      exact o8.2.2.2.2.2 d (by omega) r r' h1 h2 h3
end DAY
