/-! The day's step: class and model. -/
section OPS9
variable {G : GG} {l : Launch} {d : Nat} {σ : AS} {kk nn D : Nat}
theorem c_step2 {post : Option AVal → AS → Prop} {N q K a0 n A D : Nat} {asg : Nat → Option Nat} {ax : Nat → Nat} {P S : Nat → Int32} {x seed : Int32} (hP : PicS N q K a0 σ) (hA : Seat N K a0 σ asg) (hD : gI σ 12 10 0 = nI D) (hD6 : D ≤ 60) (hW : LW σ) (h5 : 5 < cnt σ 0) (hq : q ≠ 3 ∧ q ≠ 4 ∧ q ≠ 5) (hq0 : q < cnt σ 0) (hA1 : AL σ 1 A (fun g => (1, ax g))) (hA5 : AL σ 5 (cnt σ 11) (fun i => (11, i))) (hR2 : RW σ 2 n P) (hR3 : RW σ 3 n S) (hb : ∀ a, a < K → gI σ 2 7 (a0 + a) = 0) (hn : D < 60 → n + 40 ≤ 2600) (hR : D < 60 → cnt σ 11 + 40 ≤ 2400) (hkk' : (¬ x < 1 ∧ ¬ 5 < x) ∧ cAll asg N ≠ 0 ∧ D < 60 → 161 ≤ kk ∧ 22043 ≤ nn)
    (h0 : ¬ ((¬ x < 1 ∧ ¬ 5 < x) ∧ cAll asg N ≠ 0 ∧ D < 60) → post (some (xI (-1))) σ)
    (h1 : ∀ dr, x = nI dr → 1 ≤ dr → dr ≤ 5 → cAll asg N ≠ 0 → D < 60 → ∀ σ' ord, DayR σ (sI σ' 12 10 0 (nI (D + 1))) N K a0 dr n A asg ax P S seed (nI D) ord → post (some (xI (lastS (fun k => stB σ a0 dr N asg seed (nI D) ord (akF asg (tpF asg N k)) + gI σ 2 3 (a0 + akF asg (tpF asg N k))) (cAll asg N)))) (sI σ' 12 10 0 (nI (D + 1)))) : AMet G l M_X11_step (d + 10) kk nn [xR (some (12, 0)), xI x, xI seed] σ post := by
  have hN := hP.2.2.1
  have hcN := cAll_le (asg := asg) N
  refine AMet.of rfl (Nat.le_of_ble_eq_true rfl) (vc_X11_step (d := d + 9) (c_withinB (fun z => ⟨hP.1, fun _ => h0 (fun w => z w.1), fun z2 => absurd rfl z2⟩) (fun z => ⟨hP.1, fun c => absurd c (by decide), fun _ => c_psize (d := d + 5) hP hA ⟨hP.1, fun c => h0 (fun w => w.2.1 ?_), fun c => ?_⟩⟩)))
  · have := (nI_eq (b := 0) (show cAll asg N < 2 ^ 31 by omega) (by decide)).mp (by rw [c, nI_0])
    exact this
  · rw [hD]
    have hc0 : cAll asg N ≠ 0 := fun e => c (by rw [e, nI_0])
    obtain ⟨dr, hdr, rfl⟩ := nI_of (x := x) (fun q => z.1 (Int32.lt_trans q (by decide)))
    have d1 : 1 ≤ dr := Nat.le_of_not_lt fun q => z.1 (nI_lt (b := 1) q (by decide))
    have d5 : dr ≤ 5 := Nat.le_of_not_lt fun q => z.2 (nI_lt (a := 5) q hdr)
    refine ⟨fun c6 => ?_, fun c6 => h0 (fun w => c6 (nI_lt w.2.2 (by decide)))⟩
    have hlt : D < 60 := (nI_ltI (b := 60) (by omega) (by decide)).mp c6
    exact a_day (d := d) hP hA hW h5 hq hq0 hA1 hA5 hR2 hR3 hb d1 d5 (by have := hn hlt; omega) (by have := hR hlt; omega) (hkk' ⟨z, hc0, hlt⟩).1 (hkk' ⟨z, hc0, hlt⟩).2 (fun σ' ord R e => by
      rw [e, hD, nI_1] at R ⊢
      exact h1 dr rfl d1 d5 hc0 hlt σ' ord R)
theorem OrdR.congr {asg : Nat → Option Nat} {co co' : Nat → Int32} {p m : Nat} {ord : Nat → Nat} (h : OrdR asg co p m ord) (k : ∀ q, q < p → co q = co' q) : OrdR asg co' p m ord := ⟨fun i j hij hj => by rw [← k _ (h.2.1 i (by omega)).1, ← k _ (h.2.1 j hj).1]; exact h.1 i j hij hj, h.2.1, h.2.2⟩
def scA (an : Nat) (ab : Nat → Int32) (a : Nat) : Int32 := (h0 an ab (ip an ab a)).2
def tkA (an : Nat) (ab : Nat → Int32) (a : Nat) : Int32 := (h2 an ab (ip an ab a)).2
theorem dr_ok {dr : Nat} (h1 : 1 ≤ dr) (h5 : dr ≤ 5) : ¬ nI dr < 1 ∧ ¬ 5 < nI dr := ⟨fun z => by have := (nI_ltI (a := dr) (b := 1) (by omega) (by decide)).mp z; omega, fun z => by have := (nI_ltI (a := 5) (b := dr) (by decide) (by omega)).mp z; omega⟩
theorem nI_nn {n : Nat} (h : n < 2 ^ 31) : 0 ≤ nI n := Int32.not_lt.mp (nI_pos h)
section
variable {N K q a0 n an A R F T mvn lkn : Nat} {asg : Nat → Option Nat} {b ab fP fS mv lk : Nat → Int32} {per : Nat → Nat → Int32} {ax tq tc : Nat → Nat} {tt : Nat → Nat → Nat} {tf : Nat → Nat → Nat → Int32} {w : Nat → Nat} {rf : Nat → Nat → Int32} {rg : Nat → Option Nat} {Rs : Nat → Nat} {pl : Int32}
/-- minutes of a day stay small -/
theorem day_bd (hC : CI σ D N K q a0 n an A R F T mvn lkn asg b ab fP fS mv lk per ax tq tc tt tf w rf rg pl) (hO : OK D N K n an A R F T mvn lkn b ab fP fS per tc tf w rf rg Rs) {dr m : Nat} {seed : Int32} {ord : Nat → Nat} (hm : m ≤ 40) (hord : ∀ j, j < m → ord j < N ∧ asg (ord j) ≠ none) (a : Nat) (ha : a < K) : ∃ v, v ≤ 3400 ∧ bgS (stT σ a0 dr asg seed (nI D) ord) (fun j => akF asg (ord j)) a m + tkA an ab a = nI v := by
  obtain ⟨o1, o2, o3, o4, o5, o6, o7, o8, o9⟩ := hO
  obtain ⟨c1, c2, c3, c4, c5, c6, c7, c8, c9⟩ := hC
  obtain ⟨v, hv, ev⟩ := bgS_bd (t := stT σ a0 dr asg seed (nI D) ord) (ak := fun j => akF asg (ord j)) (a := a) (m := m) (fun j hj => tSj_bd (m := m) (fun i hi => by
    obtain ⟨g1, g2⟩ := hord i hi
    refine ⟨?_, ?_⟩
    · obtain ⟨x, hx⟩ : ∃ x, asg (ord i) = some x := by
        cases z : asg (ord i) with
        | none => exact absurd z g2
        | some x => exact ⟨x, rfl⟩
      have xK := c2.2.1 _ g1 x hx
      obtain ⟨q1, q2, -, -⟩ := o4.2.2 x xK
      obtain ⟨-, -, ⟨k, hk, e⟩, -⟩ := hd_facts q1 q2
      obtain ⟨u, hu, eu⟩ := late_bd seed (nI D) (ord i)
      refine ⟨k + u, by omega, ?_⟩
      unfold comeA
      rw [hx]
      dsimp only
      rw [(c7 x xK).2.1, e, eu, nI_add]
    · obtain ⟨-, ⟨s, hs, es⟩, -⟩ := o6 _ g1
      exact ⟨s, hs, (c6 _ g1 5 (by decide)).trans es⟩) hm j hj)
  obtain ⟨q1, q2, -, -⟩ := o4.2.2 a ha
  obtain ⟨-, -, -, ⟨k, hk, e⟩, -⟩ := hd_facts q1 q2
  refine ⟨v + k, by omega, ?_⟩
  unfold tkA
  rw [ev, e, nI_add]
end
theorem op_step {x seed : Int32} (hI : Inv D σ) : ∃ D', (D' = D ∨ (D' = D + 1 ∧ D < 60)) ∧ ∀ {P : Option AVal → Option AVal → AS → Prop} {Q : Option AVal → AS → Prop} {kk nn : Nat}, (D' = D + 1 → 161 ≤ kk ∧ 22043 ≤ nn) → (∀ (x0 : Int32) (σ1 : AS), XK σ σ1 → AMet G l M_X12_step (d + 36) 0 0 [xR (some (13, 0)), xI x, xI seed] σ1 (P (some (xI x0))) → Q (some (xI x0)) σ1) → (∀ x σ2, Inv D' σ2 → XK σ σ2 → P (some (xI x)) (some (xI x)) σ2) → AMet G l M_X11_step (d + 36) kk nn [xR (some (12, 0)), xI x, xI seed] σ Q := by
  obtain ⟨N, K, q, a0, n, an, A, R, F, T, mvn, lkn, asg, b, ab, fP, fS, mv, lk, per, ax, tq, tc, tt, tf, w, rf, rg, Rs, pl, hC, hO, hM⟩ := id hI
  obtain ⟨o1, o2, o3, o4, o5, o6, o7, o8, o9⟩ := id hO
  obtain ⟨c1, c2, c3, c4, c5, c6, c7, c8, c9⟩ := id hC
  have hS := c1.1
  have fa := hO.facts
  have hcl := cAll_le (asg := asg) N
  have fits : D < 60 → F + 40 ≤ 2600 := fun z => by have := o9.2.1; have := o9.1; omega
  have cm : ∀ σ1, sameK MK σ σ1 → CalM σ1 N K asg ∧ (∀ a, a < K → gA σ1 26 10 a = scA an ab a ∧ gA σ1 26 12 a = tkA an ab a ∧ gA σ1 26 11 a = miA an ab a) ∧ (∀ p, p < N → gA σ1 26 4 p = per p 5) := fun σ1 k => by
    obtain ⟨m1, m2, m3, m4, m5, m6, m7, m8, m9⟩ := hM.keepC k
    exact ⟨Inv.calM m1 m2 o2 o4.1 c2.2.1, fun a ha => ⟨(m5.2.2 a ha).1, (m5.2.2 a ha).2.2.1, (m5.2.2 a ha).2.1⟩, fun p hp => (m1.2.1 p hp).1 5 (by decide) (by decide)⟩
  have run : ∀ {P : Option AVal → Option AVal → AS → Prop} {Q : Option AVal → AS → Prop} {kk nn : Nat}, ((¬ x < 1 ∧ ¬ 5 < x) ∧ cAll asg N ≠ 0 ∧ D < 60 → 161 ≤ kk ∧ 22043 ≤ nn) → (∀ (x0 : Int32) (σ1 : AS), XK σ σ1 → AMet G l M_X12_step (d + 36) 0 0 [xR (some (13, 0)), xI x, xI seed] σ1 (P (some (xI x0))) → Q (some (xI x0)) σ1) → (∀ x1 σ2, Inv (if (¬ x < 1 ∧ ¬ 5 < x) ∧ cAll asg N ≠ 0 ∧ D < 60 then D + 1 else D) σ2 → XK σ σ2 → P (some (xI x1)) (some (xI x1)) σ2) → AMet G l M_X11_step (d + 36) kk nn [xR (some (12, 0)), xI x, xI seed] σ Q := by
    intro P Q kk nn hkk h1 h2
    refine c_step2 (d := d + 26) (D := D) c1 c2 c4.1 o1 c3.1 c3.2.1 (by have := c3.2.2.2; omega) c3.2.2.1 c8.1 (by rw [c9.2.1]; exact c9.1) c5.2.1 c5.2.2.1 (fun a ha => (c7 a ha).2.2.2.2.1) fits (fun z => by rw [c9.2.1]; have := fa.1; omega) hkk (fun no => ?_) (fun dr ex d1 d5 hc0 hD6 σ' ord Dy => ?_)
    · obtain ⟨k1, k2, k3⟩ := cm σ sameK.rf
      obtain ⟨m1, m2, m3, m4, m5, m6, m7, m8, m9⟩ := id hM
      refine h1 _ σ XK.rf (m_step (d := d + 34) (ord := fun _ _ => 0) (slow := fun p => per p 5) hS k1 m7.2.1 o1 m6.1 m3.1 fits m7.1 k2 k3 (fun _ => h2 _ _ ?_ XK.t0) (fun dr ex d1 d5 hc0 hD6 => absurd ⟨by rw [ex]; exact dr_ok d1 d5, hc0, hD6⟩ no))
      rw [if_neg no]; exact hI.t0
    · have S1 := Dy.2.1.1
      have kM : sameK MK σ (sI σ' 12 10 0 (nI (D + 1))) := Dy.1.1.sub (fun c hc => by unfold MK at hc; omega)
      have xk : XK σ (sI σ' 12 10 0 (nI (D + 1))) := XK.of Dy.1.1 (by decide) (by decide)
      have C1 := hC.day o2 gI_self Dy
      have O1 := OK.day hC hO hD6 Dy
      obtain ⟨k1, k2, k3⟩ := cm _ kM
      have M1 := hM.keepC kM
      generalize hs1 : sI σ' 12 10 0 (nI (D + 1)) = s1 at *
      have yes : (¬ x < 1 ∧ ¬ 5 < x) ∧ cAll asg N ≠ 0 ∧ D < 60 := ⟨by rw [ex]; exact dr_ok d1 d5, hc0, hD6⟩
      rw [if_pos yes] at h2
      obtain ⟨m1, m2, m3, m4, m5, m6, m7, m8, m9⟩ := id M1
      obtain ⟨Fr, P1, A1, W1, Or1, per1, dj, unc, r2, r3, al5, k11⟩ := id Dy
      have ce : ∀ p, p < N → comeA σ a0 asg seed (nI D) p = comeM asg (miA an ab) seed (nI D) p := fun p hp => by
        unfold comeA comeM
        cases z : asg p with
        | none => rfl
        | some a => dsimp only; rw [(c7 a (c2.2.1 p hp a z)).2.1]; rfl
      have OrM := Or1.congr ce
      have some' : ∀ p, asg p ≠ none → ∃ a, asg p = some a := fun p h => by
        cases z : asg p with
        | none => exact absurd z h
        | some a => exact ⟨a, rfl⟩
      refine h1 _ s1 xk (m_step (d := d + 34) (ord := fun _ _ => 0) (slow := fun p => per p 5) S1 k1 m7.2.1 o1 m6.1 m3.1 fits m7.1 k2 k3 (fun no => absurd yes no) (fun dr' ex' d1' d5' _ _ => ?_))
      have edr : dr' = dr := (nI_eq (by omega) (by omega)).mp (ex'.symm.trans ex)
      subst edr
      refine ⟨ord, OrM, fun σ2 DR hDR DM ff f0 => ?_⟩
      have eDR : ∀ j, j < cAll asg N → DR (ord j) = stT σ a0 dr' asg seed (nI D) ord j := fun j hj => (hDR j hj).trans (tSj_congr (fun i hi => ⟨(ce _ (OrM.2.1 i (by omega)).1).symm, (c6 _ (OrM.2.1 i (by omega)).1 5 (by decide)).symm⟩))
      have eB : ∀ a, bgM DR asg a N = stB σ a0 dr' N asg seed (nI D) ord a := fun a => bg_eq OrM eDR
      have tk : ∀ p, p < N → ∀ a, asg p = some a → gI σ 2 3 (a0 + a) = tkA an ab a := fun p hp a ha => (c7 a (c2.2.1 p hp a ha)).2.2.1
      have sc : ∀ p, p < N → ∀ a, asg p = some a → gI σ 2 1 (a0 + a) = scA an ab a := fun p hp a ha => (c7 a (c2.2.1 p hp a ha)).1
      have ans : laM (fun q => match asg q with | some a => bgM DR asg a N + tkA an ab a | none => 0) asg N = lastS (fun k => stB σ a0 dr' N asg seed (nI D) ord (akF asg (tpF asg N k)) + gI σ 2 3 (a0 + akF asg (tpF asg N k))) (cAll asg N) := by
        rw [laM_eq (u := fun k => stB σ a0 dr' N asg seed (nI D) ord (akF asg (tpF asg N k)) + gI σ 2 3 (a0 + akF asg (tpF asg N k))) N (fun q hq cq => ?_), if_neg hc0]
        obtain ⟨a, ha⟩ := some' q cq
        obtain ⟨v, hv, ev⟩ := day_bd hC hO (dr := dr') (seed := seed) (ord := ord) (m := cAll asg N) (by omega) (fun j hj => OrM.2.1 j hj) a (c2.2.1 q hq a ha)
        have et := tk q hq a ha
        have ea : akF asg q = a := by unfold akF; rw [ha]; rfl
        rw [tpF_of hq cq, ea, et, ha]
        dsimp only
        rw [eB a]
        exact ⟨rfl, by unfold stB; rw [ev]; exact nI_nn (by omega)⟩
      refine Eq.mpr (congrArg (fun y => P _ (some (xI y)) σ2) ans) ?_
      have Z := DM.1
      refine h2 _ σ2 ⟨N, 0, cnt σ 0, 0, n, an, A, R + cAll asg N, F + cAll asg N, T, mvn, lkn, (fun _ => none), b, ab, _, _, mv, lk, _, ax, tq, tc, tt, tf, _, _, _, _, pl, C1.keep Z.1 (Z.st S1), O1, ?_⟩ (xk.tr (XK.mz Z))
      have ar : ∀ x j, ¬ (x = 5 ∨ x = 6 ∨ x = 7 ∨ x = 8 ∨ x = 9 ∨ (27 ≤ x ∧ x ≤ 35)) → gA σ2 26 x j = gA s1 26 x j := fun x j hx => Z.2.2.2.2.2 26 x j (by decide) (by unfold QS; omega)
      have z21 : ∀ j, gA σ2 21 0 j = gA s1 21 0 j := fun j => Z.2.2.2.2.2 21 0 j (by decide) (by unfold QS; omega)
      have p6 : ∀ f p, p < N → f ≠ 7 → f ≠ 8 → f ≠ 9 → f ≠ 10 → gI s1 6 f p = per p f := fun f p hp a1 a2 a3 a4 => (Fr.2.1 f p a1 a2 a3).trans (c6 p hp f a4)
      refine ⟨⟨(ff 1 (by decide) (by decide) (by decide) (by decide) (by decide)).trans m1.1, fun p hp => ⟨fun f f1 f2 => ?_, ?_, ?_, ?_⟩, fun p hp1 hp2 => ?_⟩, fun p hp => DM.2.2.2.2.2.2.2.2.2.2 p (by omega), ⟨DM.2.2.2.2.2.2.1, (ff 13 (by decide) (by decide) (by decide) (by decide) (by decide)).trans m3.2.1, fun i hi => ?_⟩, m4.keep (EqM.mz Z (fun f x => by unfold pTap at x; unfold PS; omega) (fun c a x => by unfold qTap at x; unfold QS; omega)), ⟨DM.2.2.2.2.2.2.2.2.2.1, fun z => absurd z (Nat.lt_irrefl 0), fun a ha => absurd ha (Nat.not_lt_zero a)⟩, m6.keep (EqM.mz Z (fun f x => by unfold pAg at x; unfold PS; omega) (fun c a x => by unfold qAg at x; unfold QS; omega)), ⟨DM.2.2.2.2.2.2.2.1, DM.2.2.2.2.2.2.2.2.1, fun d hd p hp => ?_⟩, m8.keep (EqM.mz Z (fun f x => by unfold pMov at x; unfold PS; omega) (fun c a x => by unfold qMov at x; unfold QS; omega)), (ff 26 (by decide) (by decide) (by decide) (by decide) (by decide)).trans m9⟩
      · exact ((ar (f - 1) p (by omega)).trans ((m1.2.1 p hp).1 f f1 f2)).trans (p6 f p hp (by omega) (by omega) (by omega) (by omega)).symm
      · exact ((z21 p).trans (m1.2.1 p hp).2.1).trans (p6 6 p hp (by decide) (by decide) (by decide) (by decide)).symm
      · by_cases c : asg p = none
        · exact (((DM.2.2.2.1 p (fun _ => c)).1).trans (m1.2.1 p hp).2.2.1).trans ((unc p hp c 7).trans (c6 p hp 7 (by decide))).symm
        · obtain ⟨a, ha⟩ := some' p c
          obtain ⟨y1, y2, y3, y4, y5, y6, y7, y8, y9, y10⟩ := per1 p hp a ha
          dsimp only
          rw [(DM.2.1 p hp a ha).2.1, (m1.2.1 p hp).2.2.1, y8, c6 p hp 7 (by decide)]
      · by_cases c : asg p = none
        · exact (((DM.2.2.2.1 p (fun _ => c)).2).trans (m1.2.1 p hp).2.2.2).trans ((unc p hp c 8).trans (c6 p hp 8 (by decide))).symm
        · obtain ⟨a, ha⟩ := some' p c
          obtain ⟨y1, y2, y3, y4, y5, y6, y7, y8, y9, y10⟩ := per1 p hp a ha
          dsimp only
          rw [(DM.2.1 p hp a ha).2.2.1, y9, ← eB a, tk p hp a ha]
      · obtain ⟨e1, e2, e3⟩ := m1.2.2 p hp1 hp2
        obtain ⟨d1, d2⟩ := DM.2.2.2.1 p (fun z => by omega)
        exact ⟨(z21 p).trans e1, d1.trans e2, d2.trans e3⟩
      · unfold catN
        by_cases c : i < F
        · rw [if_pos c, if_pos c]
          exact ⟨(DM.2.2.2.2.2.1 i c).1.trans (m3.2.2 i c).1, (DM.2.2.2.2.2.1 i c).2.trans (m3.2.2 i c).2⟩
        · rw [if_neg c, if_neg c]
          obtain ⟨s1', s2, s3⟩ := tpF_spec (asg := asg) (N := N) (k := i - F) (by omega)
          obtain ⟨a, ha⟩ := some' _ s2
          obtain ⟨-, -, -, y8, y9⟩ := DM.2.1 _ s1' a ha
          rw [s3, show F + (i - F) = i by omega] at y8 y9
          have ea : akF asg (tpF asg N (i - F)) = a := by unfold akF; rw [ha]; rfl
          dsimp only
          rw [ea, sc _ s1' a ha]
          exact ⟨y8, y9⟩
      · have hRD : Rs D = R := o8.2.1
        by_cases c : d = D
        · subst c
          by_cases z : p < N ∧ asg p ≠ none
          · obtain ⟨hp', cp⟩ := z
            obtain ⟨a, ha⟩ := some' p cp
            obtain ⟨y1, y2, y3, y4, y5, y6, y7, y8, y9, y10⟩ := per1 p hp' a ha
            rw [c9.2.1] at y1 y2 y3 y4 y5 y6 y7
            have tp := tpF_of (asg := asg) (N := N) hp' cp
            have lt := cAll_lt2 cp hp'
            refine Or.inl ⟨R + cAll asg p, ?_, ?_, ?_, ?_⟩
            · unfold RsD; rw [if_neg (by omega)]; omega
            · unfold RsD; rw [if_pos rfl]; omega
            · unfold wD; rw [if_neg (by omega), show R + cAll asg p - R = cAll asg p by omega, tp]
            · have row := (DM.2.1 p hp' a ha).1
              obtain ⟨j, hj, ej⟩ := OrM.2.2 p hp' cp
              have y5' := dj j hj
              rw [ej, c9.2.1] at y5'
              have eD := eDR j hj
              rw [ej] at eD
              have eg : rgI (rgD rg R A (R + cAll asg p)) = nI A - 1 := by
                unfold rgD
                rw [if_neg (by omega)]
                by_cases e : A = 0
                · rw [if_pos e, e]; rfl
                · rw [if_neg e]
                  show nI (A - 1) = _
                  obtain ⟨A', rfl⟩ : ∃ A', A = A' + 1 := ⟨A - 1, by omega⟩
                  rw [← nI_1, Nat.add_sub_cancel]
                  exact (Int32.add_sub_cancel _ _).symm
              dsimp only
              rw [eg, y3, y4, y5', y5, y6, sc p hp' a ha, tk p hp' a ha, ce p hp', ← eB a, ← eD]
              exact row
          · refine Or.inr ⟨fun r r1 r2 e => ?_, DM.2.2.1 p hp (fun h => ?_)⟩
            · unfold RsD at r1 r2
              rw [if_neg (by omega)] at r1
              rw [if_pos rfl] at r2
              obtain ⟨s1', s2, s3⟩ := tpF_spec (asg := asg) (N := N) (k := r - R) (by omega)
              unfold wD at e
              rw [if_neg (by omega)] at e
              rw [e] at s1' s2
              exact z ⟨s1', s2⟩
            · cases q : asg p with
              | none => rfl
              | some a => exact absurd ⟨h, by rw [q]; simp⟩ z
        · have hd' : d < D := by omega
          have mono := Rs_mono o8 D (d + 1) (by omega) (Nat.le_refl D)
          have e1 : RsD Rs D (cAll asg N) d = Rs d := by unfold RsD; rw [if_neg (by omega)]
          have e2 : RsD Rs D (cAll asg N) (d + 1) = Rs (d + 1) := by unfold RsD; rw [if_neg (by omega)]
          rw [e1, e2]
          rcases m7.2.2 d hd' p hp with ⟨r, r1, r2, r3, r4⟩ | ⟨r1, r2⟩
          · have hr : r < R := by omega
            obtain ⟨g1, g2, g3⟩ := c9.2.2 r hr
            have g : ∀ f, f ≠ 2 → gI s1 11 f r = rf r f := fun f hf => ((Fr.2.2.2.2.1 r (by rw [c9.2.1]; exact hr)).1 f).trans (g2 f hf)
            refine Or.inl ⟨r, r1, r2, by unfold wD; rw [if_pos hr]; exact r3, ?_⟩
            have eg : rgD rg R A r = rg r := by unfold rgD; rw [if_pos hr]
            dsimp only
            rw [eg, g 3 (by decide), g 4 (by decide), g 5 (by decide), g 6 (by decide), g 7 (by decide)]
            exact r4.keep (fun a h1 h2 => DM.2.2.2.2.1 a h1 h2 _ (by omega))
          · refine Or.inr ⟨fun r h1 h2 => ?_, (DM.2.2.2.2.1 27 (by decide) (by decide) _ (by omega)).trans r2⟩
            unfold wD
            rw [if_pos (by omega)]
            exact r1 r h1 h2
  by_cases yes : (¬ x < 1 ∧ ¬ 5 < x) ∧ cAll asg N ≠ 0 ∧ D < 60
  · exact ⟨D + 1, Or.inr ⟨rfl, yes.2.2⟩, fun {P Q kk nn} hb h1 h2 => run (fun _ => hb rfl) h1 (by rw [if_pos yes]; exact h2)⟩
  · exact ⟨D, Or.inl rfl, fun {P Q kk nn} _ h1 h2 => run (fun z => absurd z yes) h1 (by rw [if_neg yes]; exact h2)⟩
end OPS9
