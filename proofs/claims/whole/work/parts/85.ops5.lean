/-! Calls: record, pay. -/
section OPS5
variable {G : GG} {l : Launch} {d D : Nat} {σ : AS} {Q : Option AVal → AS → Prop} {P : Option AVal → Option AVal → AS → Prop}
section
variable {N K q a0 n an A R F T mvn lkn : Nat} {asg : Nat → Option Nat} {b ab fP fS mv lk : Nat → Int32} {per : Nat → Nat → Int32} {ax tq tc : Nat → Nat} {tt : Nat → Nat → Nat} {tf : Nat → Nat → Nat → Int32} {w : Nat → Nat} {rf : Nat → Nat → Int32} {rg : Nat → Option Nat} {Rs : Nat → Nat} {pl : Int32}
theorem Rs_mono (h : RecOk D N A R w rf rg Rs) : ∀ j i, i ≤ j → j ≤ D → Rs i ≤ Rs j
  | 0, i, hi, _ => by
    have : i = 0 := by omega
    rw [this]; exact Nat.le_refl _
  | j + 1, i, hi, hj => by
    by_cases e : i = j + 1
    · rw [e]; exact Nat.le_refl _
    · have h1 := Rs_mono h j i (by omega) (by omega)
      have h2 := (h.2.2.1 j (by omega)).1
      omega
theorem Rs_block (h : RecOk D N A R w rf rg Rs) {r : Nat} : ∀ j, j ≤ D → r < Rs j → ∃ d, d < j ∧ Rs d ≤ r ∧ r < Rs (d + 1)
  | 0, _, hr => by rw [h.1] at hr; exact absurd hr (Nat.not_lt_zero r)
  | j + 1, hj, hr => by
    by_cases c : r < Rs j
    · obtain ⟨d, h1, h2⟩ := Rs_block h j (by omega) c
      exact ⟨d, by omega, h2⟩
    · exact ⟨j, by omega, by omega, hr⟩
theorem Rs_uniq (h : RecOk D N A R w rf rg Rs) {d r r' : Nat} (hd : d < D) (h1 : Rs d ≤ r) (h2 : r < Rs (d + 1)) (h3 : Rs d ≤ r') (h4 : r' < Rs (d + 1)) (e : w r = w r') : r = r' := by
  rcases Nat.lt_trichotomy r r' with c | c | c
  · have := h.2.2.2.2.2 d hd r r' h1 c h4; omega
  · exact c
  · have := h.2.2.2.2.2 d hd r' r h3 c h2; omega
/-- where the record of p and a day is -/
theorem rec_find (hC : RecC σ R w rf rg ax) (h : RecOk D N A R w rf rg Rs) (hN : N ≤ 40) (hD : D ≤ 60) {d r : Nat} (hd : d < D) (h1 : Rs d ≤ r) (h2 : r < Rs (d + 1)) : leastP (recP σ w (nI (w r)) (nI d)) R = some r := by
  have mono := Rs_mono h D (d + 1) (by omega) (Nat.le_refl D)
  have hR : Rs D = R := h.2.1
  have day : ∀ r, r < R → gI σ 11 1 r = rf r 1 := fun r hr => (hC.2.2 r hr).2.1 1 (by decide)
  refine leastP_some R (by omega) ?_ (fun r' hr' => ?_)
  · unfold recP
    rw [decide_eq_true rfl, day r (by omega), h.2.2.2.2.1 d hd r h1 h2, decide_eq_true rfl]; rfl
  · unfold recP
    by_cases c1 : nI (w r') = nI (w r)
    · by_cases c2 : gI σ 11 1 r' = nI d
      · exfalso
        obtain ⟨d', e1, e2, e3⟩ := Rs_block h D (Nat.le_refl D) (r := r') (by omega)
        rw [day r' (by omega), h.2.2.2.2.1 d' e1 r' e2 e3] at c2
        have ed := (nI_eq (by omega) (by omega)).mp c2
        subst ed
        have b1 := (h.2.2.2.1 r' (by omega)).1
        have b2 := (h.2.2.2.1 r (by omega)).1
        have := Rs_uniq h e1 e2 e3 h1 h2 ((nI_eq (by omega) (by omega)).mp c1)
        omega
      · rw [decide_eq_false c2, Bool.and_false]
    · rw [decide_eq_false c1, Bool.false_and]
/-- what record r is worth -/
def payR (σ : AS) (tc : Nat → Nat) (tt : Nat → Nat → Nat) (rg : Nat → Option Nat) (r : Nat) : Int32 := match rg r with
  | some g => sumT σ (tt g) (gI σ 11 4 r) (gI σ 11 7 r) (tc g)
  | none => 0
theorem agP (hA : AgC σ A ax tq tc tt tf) (hC : RecC σ R w rf rg ax) (h : RecOk D N A R w rf rg Rs) {r : Nat} (hr : r < R) : AgP σ r (rgI (rg r)) (payR σ tc tt rg r) := by
  have e8 := (hC.2.2 r hr).2.2
  unfold payR
  cases c : rg r with
  | none => rw [c] at e8; exact Or.inl ⟨e8, rfl, rfl⟩
  | some g =>
    rw [c] at e8
    have hg := (h.2.2.2.1 r hr).2.1 g c
    obtain ⟨a1, a2, a3, a4, a5, a6⟩ := hA.2 g hg
    exact Or.inr ⟨ax g, tq g, tc g, tt g, e8, a3, a5, a2.symm, rfl⟩
theorem sumT_M (hA : AgC σ A ax tq tc tt tf) (hM : AgM2 σ A tc tf) {g : Nat} (hg : g < A) (co se : Int32) : ∀ k, k ≤ tc g → sumT σ (tt g) co se k = sumM σ g co se k
  | 0, _ => rfl
  | k + 1, hk => by
    rw [sumT, sumM, sumT_M hA hM hg co se k (by omega)]
    congr 1
    obtain ⟨-, e⟩ := (hA.2 g hg).2.2.2.2.2 k (by omega)
    obtain ⟨m1, m2, m3, m4⟩ := (hM.2 g hg).2 k (by omega)
    unfold tWx tWm
    rw [e 0 (by decide), e 1 (by decide), e 2 (by decide), e 3 (by decide), m1, m2, m3, m4]
theorem woM (hA : AgC σ A ax tq tc tt tf) (hC : RecC σ R w rf rg ax) (h : RecOk D N A R w rf rg Rs) (hO : AgOk A tc tf) (hM : AgM2 σ A tc tf) {r k : Nat} (hr : r < R) (row : RowM σ k (rf r 3) (rf r 4) (rf r 5) (rf r 6) (rf r 7) (rgI (rg r))) : WoM σ k (rgI (rg r)) (payR σ tc tt rg r) := by
  refine ⟨row.2.2.2.2.2, ?_⟩
  unfold payR
  cases c : rg r with
  | none => exact Or.inl ⟨rfl, rfl⟩
  | some g =>
    have hg := (h.2.2.2.1 r hr).2.1 g c
    have e := (hC.2.2 r hr).2.1
    refine Or.inr ⟨g, tc g, rfl, ⟨by have := hO.1; omega, (hO.2 g hg).1, (hM.2 g hg).1, fun s hs => ?_⟩, ?_⟩
    · rw [((hM.2 g hg).2 s hs).1]; exact (hO.2 g hg).2 s hs
    · dsimp only
      rw [sumT_M hA hM hg _ _ _ (Nat.le_refl _), e 4 (by decide), e 7 (by decide), row.2.1, row.2.2.2.2.1]
theorem ansT_congr {f g : Nat → Int32} {num pay a : Int32} (h : ∀ k, 3 ≤ k → k ≤ 7 → f k = g k) : ansT f num pay a = ansT g num pay a := by
  unfold ansT
  rw [h 3 (by decide) (by decide), h 4 (by decide) (by decide), h 5 (by decide) (by decide), h 6 (by decide) (by decide), h 7 (by decide) (by decide)]
end
theorem op_record {x y a : Int32} (hI : Inv D σ) (h1 : ∀ (x0 : Int32) (σ1 : AS), XK σ σ1 → AMet G l M_X12_record (d + 36) 0 0 [xR (some (13, 0)), xI x, xI y, xI a] σ1 (P (some (xI x0))) → Q (some (xI x0)) σ1) (h2 : ∀ x σ2, Inv D σ2 → XK σ σ2 → P (some (xI x)) (some (xI x)) σ2) : AMet G l M_X11_record (d + 36) 0 0 [xR (some (12, 0)), xI x, xI y, xI a] σ Q := by
  obtain ⟨N, K, q, a0, n, an, A, R, F, T, mvn, lkn, asg, b, ab, fP, fS, mv, lk, per, ax, tq, tc, tt, tf, w, rf, rg, Rs, pl, ⟨c1, c2, c3, c4, c5, c6, c7, c8, c9⟩, ⟨o1, o2, o3, o4, o5, o6, o7, o8, o9⟩, ⟨m1, m2, m3, m4, m5, m6, m7, m8, m9⟩⟩ := id hI
  have hR : Rs D = R := o8.2.1
  have rw' : RecW N R w σ := ⟨c9.1, fun r hr => ⟨(c9.2.2 r hr).1, (o8.2.2.2.1 r hr).1⟩, fun p hp => c1.2.2.2.2.1 p hp⟩
  have inR : ∀ {d r}, d < D → r < Rs (d + 1) → r < R := fun {d r} hd hr => by
    have := Rs_mono o8 D (d + 1) (by omega) (Nat.le_refl D)
    omega
  -- a row of the model is a record
  have has : ∀ p q', p < N → q' < D → gA σ 26 27 (40 * q' + p) ≠ -1 → ∃ r, Rs q' ≤ r ∧ r < Rs (q' + 1) ∧ w r = p ∧ RowM σ (40 * q' + p) (rf r 3) (rf r 4) (rf r 5) (rf r 6) (rf r 7) (rgI (rg r)) := fun p q' hp hq ne => by
    rcases m7.2.2 q' hq p (by omega) with z | z
    · exact z
    · exact absurd z.2 ne
  refine c_record (num := fun r => rgI (rg r)) (pay := payR σ tc tt rg) c1.1 rw' (fun r hr => agP c8 c9 o8 hr) (fun no => h1 _ σ XK.rf (m_record (D := D) c1.1 o2 o1 m1.1 m7.2.1 (fun _ => h2 _ _ hI.t0 XK.t0) (fun p q' hp hq ex ey ne => ?_))) (fun r hr => ?_)
  · exfalso
    obtain ⟨r, r1, r2, r3, -⟩ := has p q' hp hq ne
    have := rec_find c9 o8 o2 o1 hq r1 r2
    rw [r3, ← ex, ← ey, no] at this
    cases this
  · obtain ⟨r1, r2, -⟩ := leastP_out R hr
    obtain ⟨q', d1, d2, d3⟩ := Rs_block o8 D (Nat.le_refl D) (r := r) (by omega)
    have wN := (o8.2.2.2.1 r r1).1
    have rec' := (Bool.and_eq_true_iff.mp r2)
    have ex : nI (w r) = x := of_decide_eq_true rec'.1
    have ey : gI σ 11 1 r = y := of_decide_eq_true rec'.2
    rw [(c9.2.2 r r1).2.1 1 (by decide), o8.2.2.2.2.1 q' d1 r d2 d3] at ey
    have rowr : RowM σ (40 * q' + w r) (rf r 3) (rf r 4) (rf r 5) (rf r 6) (rf r 7) (rgI (rg r)) := by
      rcases m7.2.2 q' d1 (w r) (by omega) with ⟨r', u1, u2, u3, u4⟩ | z
      · have := Rs_uniq o8 d1 u1 u2 d2 d3 u3
        subst this; exact u4
      · exact absurd rfl (z.1 r d2 d3)
    refine h1 _ σ XK.rf (m_record (D := D) c1.1 o2 o1 m1.1 m7.2.1 (fun no => absurd ⟨w r, q', wN, d1, ex.symm, ey.symm, ?_⟩ no) (fun p q2 hp hq ex' ey' ne => ?_))
    · have i1 := (nI_eq (by omega) (by omega)).mp (ex.trans ex')
      have i2 := (nI_eq (by omega) (by omega)).mp (ey.trans ey')
      subst i1; subst i2
      refine ⟨_, _, woM c8 c9 o8 o5 m6 r1 rowr, ?_⟩
      have ef : ansT (fun f => gA σ 26 (24 + f) (40 * q' + w r)) (rgI (rg r)) (payR σ tc tt rg r) a = ansT (fun f => gI σ 11 f r) (rgI (rg r)) (payR σ tc tt rg r) a := ansT_congr (fun k k1 k2 => by
        have e := (c9.2.2 r r1).2.1
        match k, k1, k2 with
        | 3, _, _ => exact rowr.1.trans (e 3 (by decide)).symm
        | 4, _, _ => exact rowr.2.1.trans (e 4 (by decide)).symm
        | 5, _, _ => exact rowr.2.2.1.trans (e 5 (by decide)).symm
        | 6, _, _ => exact rowr.2.2.2.1.trans (e 6 (by decide)).symm
        | 7, _, _ => exact rowr.2.2.2.2.1.trans (e 7 (by decide)).symm
        | 0, h, _ => exact absurd h (by decide)
        | 1, h, _ => exact absurd h (by decide)
        | 2, h, _ => exact absurd h (by decide)
        | k + 8, _, h => exact absurd h (by omega))
      rw [ef]
      exact h2 _ _ hI.t0 XK.t0
    · rw [rowr.1]; exact (o8.2.2.2.1 r r1).2.2
section
variable {N A R : Nat} {w : Nat → Nat} {rf : Nat → Nat → Int32} {rg : Nat → Option Nat} {Rs : Nat → Nat} {ax : Nat → Nat}
/-- the record of x in the block from s up to m -/
def rB (w : Nat → Nat) (x : Int32) (s m : Nat) : Option Nat := leastP (fun r => decide (s ≤ r) && decide (nI (w r) = x)) m
theorem sum_block (hC : RecC σ R w rf rg ax) (h : RecOk D N A R w rf rg Rs) (hN : N ≤ 40) {x lo hi : Int32} {pay : Nat → Int32} {d : Nat} (hd : d < D) : ∀ k, Rs d + k ≤ Rs (d + 1) → sumP σ w pay x lo hi (Rs d + k) = if ¬ nI d < lo ∧ ¬ hi < nI d ∧ (rB w x (Rs d) (Rs d + k)).isSome = true then sumP σ w pay x lo hi (Rs d) + (pay ((rB w x (Rs d) (Rs d + k)).getD 0)).toInt64 else sumP σ w pay x lo hi (Rs d)
  | 0, _ => by
    have e : rB w x (Rs d) (Rs d + 0) = none := leastP_none _ (fun p hp => by rw [decide_eq_false (by omega), Bool.false_and])
    rw [e, if_neg (fun z => absurd z.2.2 (by simp)), Nat.add_zero]
  | k + 1, hk => by
    have ih := sum_block hC h hN (x := x) (lo := lo) (hi := hi) (pay := pay) hd k (by omega)
    have mono := Rs_mono h D (d + 1) (by omega) (Nat.le_refl D)
    have hR : Rs D = R := h.2.1
    have day : gI σ 11 1 (Rs d + k) = nI d := ((hC.2.2 _ (by omega)).2.1 1 (by decide)).trans (h.2.2.2.2.1 d hd _ (by omega) (by omega))
    have eb : rB w x (Rs d) (Rs d + (k + 1)) = (match rB w x (Rs d) (Rs d + k) with | some p => some p | none => if (decide (Rs d ≤ Rs d + k) && decide (nI (w (Rs d + k)) = x)) = true then some (Rs d + k) else none) := rfl
    rw [show Rs d + (k + 1) = Rs d + k + 1 from rfl, sumP, day, ih]
    rw [show Rs d + k + 1 = Rs d + (k + 1) from rfl, eb]
    cases c : rB w x (Rs d) (Rs d + k) with
    | some r =>
      obtain ⟨r1, r2, -⟩ := leastP_out _ c
      have r2' := Bool.and_eq_true_iff.mp r2
      have rs := of_decide_eq_true r2'.1
      have rx : nI (w r) = x := of_decide_eq_true r2'.2
      have lt := h.2.2.2.2.2 d hd r (Rs d + k) rs r1 (by omega)
      have b1 := (h.2.2.2.1 r (by omega)).1
      have b2 := (h.2.2.2.1 (Rs d + k) (by omega)).1
      have nx : ¬ nI (w (Rs d + k)) = x := fun e => by
        have := (nI_eq (by omega) (by omega)).mp (e.trans rx.symm)
        omega
      rw [if_neg (fun z => nx z.1)]
    | none =>
      dsimp only
      rw [show (if ¬nI d < lo ∧ ¬hi < nI d ∧ (none : Option Nat).isSome = true then sumP σ w pay x lo hi (Rs d) + (pay ((none : Option Nat).getD 0)).toInt64 else sumP σ w pay x lo hi (Rs d)) = sumP σ w pay x lo hi (Rs d) from if_neg (fun z => absurd z.2.2 (by simp))]
      by_cases e : nI (w (Rs d + k)) = x
      · rw [if_pos (show (decide (Rs d ≤ Rs d + k) && decide (nI (w (Rs d + k)) = x)) = true by rw [decide_eq_true e, decide_eq_true (by omega)]; rfl)]
        by_cases c1 : ¬ nI d < lo ∧ ¬ hi < nI d
        · rw [if_pos ⟨e, c1.1, c1.2⟩, if_pos ⟨c1.1, c1.2, rfl⟩]; rfl
        · rw [if_neg (fun z => c1 ⟨z.2.1, z.2.2⟩), if_neg (fun z => c1 ⟨z.1, z.2.1⟩)]
      · rw [if_neg (fun z => e z.1), if_neg (show ¬ (decide (Rs d ≤ Rs d + k) && decide (nI (w (Rs d + k)) = x)) = true by rw [decide_eq_false e, Bool.and_false]; decide), if_neg (fun z => absurd z.2.2 (by simp))]
theorem sum_days (hC : RecC σ R w rf rg ax) (h : RecOk D N A R w rf rg Rs) (hN : N ≤ 40) {x lo hi : Int32} {pay : Nat → Int32} : ∀ d, d ≤ D → sumP σ w pay x lo hi (Rs d) = sumD (fun q => (rB w x (Rs q) (Rs (q + 1))).isSome) (fun q => pay ((rB w x (Rs q) (Rs (q + 1))).getD 0)) lo hi d
  | 0, _ => by rw [h.1]; rfl
  | d + 1, hd => by
    have le := (h.2.2.1 d (by omega)).1
    have k := sum_block hC h hN (x := x) (lo := lo) (hi := hi) (pay := pay) (d := d) (by omega) (Rs (d + 1) - Rs d) (by omega)
    rw [show Rs d + (Rs (d + 1) - Rs d) = Rs (d + 1) by omega] at k
    rw [k, sumD, sum_days hC h hN d (by omega)]
end
theorem op_pay {x lo hi : Int32} (hI : Inv D σ) (h1 : ∀ (x0 : Int64) (σ1 : AS), XK σ σ1 → AMet G l M_X12_pay (d + 36) 0 0 [xR (some (13, 0)), xI x, xI lo, xI hi] σ1 (P (some (xL x0))) → Q (some (xL x0)) σ1) (h2 : ∀ x σ2, Inv D σ2 → XK σ σ2 → P (some (xL x)) (some (xL x)) σ2) : AMet G l M_X11_pay (d + 36) 0 0 [xR (some (12, 0)), xI x, xI lo, xI hi] σ Q := by
  obtain ⟨N, K, q, a0, n, an, A, R, F, T, mvn, lkn, asg, b, ab, fP, fS, mv, lk, per, ax, tq, tc, tt, tf, w, rf, rg, Rs, pl, ⟨c1, c2, c3, c4, c5, c6, c7, c8, c9⟩, ⟨o1, o2, o3, o4, o5, o6, o7, o8, o9⟩, ⟨m1, m2, m3, m4, m5, m6, m7, m8, m9⟩⟩ := id hI
  have hR : Rs D = R := o8.2.1
  have rw' : RecW N R w σ := ⟨c9.1, fun r hr => ⟨(c9.2.2 r hr).1, (o8.2.2.2.1 r hr).1⟩, fun p hp => c1.2.2.2.2.1 p hp⟩
  have inR : ∀ {d r}, d < D → r < Rs (d + 1) → r < R := fun {d r} hd hr => by
    have := Rs_mono o8 D (d + 1) (by omega) (Nat.le_refl D)
    omega
  have rbs : ∀ {q' r}, rB w x (Rs q') (Rs (q' + 1)) = some r → Rs q' ≤ r ∧ r < Rs (q' + 1) ∧ nI (w r) = x := fun {q' r} e => by
    obtain ⟨r1, r2, -⟩ := leastP_out _ e
    have r2' := Bool.and_eq_true_iff.mp r2
    exact ⟨of_decide_eq_true r2'.1, r1, of_decide_eq_true r2'.2⟩
  refine c_pay (num := fun r => rgI (rg r)) (pay := payR σ tc tt rg) c1.1 rw' (fun r hr => agP c8 c9 o8 hr) ?_
  rw [← hR, sum_days c9 o8 o2 D (Nat.le_refl D)]
  refine h1 _ σ XK.rf (m_pay (D := D) (has := fun q' => (rB w x (Rs q') (Rs (q' + 1))).isSome) (pay := fun q' => payR σ tc tt rg ((rB w x (Rs q') (Rs (q' + 1))).getD 0)) c1.1 o2 o1 m1.1 m7.2.1 (fun no q' hq => ?_) (fun p hp ex q' hq => ?_) (h2 _ _ hI.t0 XK.t0))
  · cases c : rB w x (Rs q') (Rs (q' + 1)) with
    | none => rfl
    | some r =>
      obtain ⟨r1, r2, r3⟩ := rbs c
      exact absurd ⟨w r, (o8.2.2.2.1 r (inR hq r2)).1, r3.symm⟩ no
  · cases c : rB w x (Rs q') (Rs (q' + 1)) with
    | none =>
      refine ⟨⟨fun z => absurd z (by simp), fun ne => ?_⟩, fun z => absurd z (by simp)⟩
      exfalso
      rcases m7.2.2 q' hq p (by omega) with ⟨r, u1, u2, u3, u4⟩ | z
      · have := leastP_no c r u2
        rw [decide_eq_true u1, u3, decide_eq_true ex.symm] at this
        cases this
      · exact ne z.2
    | some r =>
      obtain ⟨r1, r2, r3⟩ := rbs c
      have hr := inR hq r2
      have wp : w r = p := (nI_eq (by have := (o8.2.2.2.1 r hr).1; omega) (by omega)).mp (r3.trans ex)
      have rowr : RowM σ (40 * q' + p) (rf r 3) (rf r 4) (rf r 5) (rf r 6) (rf r 7) (rgI (rg r)) := by
        rcases m7.2.2 q' hq p (by omega) with ⟨r', u1, u2, u3, u4⟩ | z
        · have := Rs_uniq o8 hq u1 u2 r1 r2 (u3.trans wp.symm)
          subst this; exact u4
        · exact absurd wp (z.1 r r1 r2)
      exact ⟨⟨fun _ => by rw [rowr.1]; exact (o8.2.2.2.1 r hr).2.2, fun _ => rfl⟩, fun _ => ⟨_, woM c8 c9 o8 o5 m6 hr rowr⟩⟩
end OPS5
