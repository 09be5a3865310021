/-! The coupling holds over calls that change little. -/
section OPS1
variable {G : GG} {l : Launch} {d D : Nat} {σ : AS} {Q : Option AVal → AS → Prop} {P : Option AVal → Option AVal → AS → Prop}
def XK (σ σ' : AS) : Prop := eqK σ σ' 27 ∧ eqK σ σ' 24
theorem XK.rf : XK σ σ := ⟨eqK.rf, eqK.rf⟩
theorem XK.of {Pd : Nat → Prop} {σ' : AS} (k : sameK Pd σ σ') (h27 : Pd 27) (h24 : Pd 24) : XK σ σ' := ⟨k 27 h27, k 24 h24⟩
theorem XK.tr {σ1 σ2 : AS} (h : XK σ σ1) (k : XK σ1 σ2) : XK σ σ2 := ⟨h.1.tr k.1, h.2.tr k.2⟩
theorem XK.mz {R : Prop} {P : Nat → Prop} {Q : Nat → Nat → Prop} {σ' : AS} (Z : MZ R P Q σ σ') : XK σ σ' := XK.of Z.1 (by decide) (by decide)
theorem XK.t0 : XK σ (T0 σ) := XK.mz (R := False) (P := fun f => f = 0) (Q := fun _ _ => False) (T0_z rfl)
theorem Inv.mz {R : Prop} {Pm : Nat → Prop} {Qm : Nat → Nat → Prop} {σ' : AS} (h : Inv D σ) (Z : MZ R Pm Qm σ σ') (hP : ∀ f, pAll f → ¬ Pm f) (hQ : ∀ c a, qAll c a → c ≠ 13 ∧ ¬ Qm c a) : Inv D σ' := by
  obtain ⟨N, K, q, a0, n, an, A, R', F, T, mvn, lkn, asg, b, ab, fP, fS, mv, lk, per, ax, tq, tc, tt, tf, w, rf, rg, Rs, pl, hC, hO, hM⟩ := h
  exact ⟨N, K, q, a0, n, an, A, R', F, T, mvn, lkn, asg, b, ab, fP, fS, mv, lk, per, ax, tq, tc, tt, tf, w, rf, rg, Rs, pl, hC.keep Z.1 (Z.st hC.1.1), hO, hM.keepM (EqM.mz Z hP hQ)⟩
theorem Inv.t0 (h : Inv D σ) : Inv D (T0 σ) := h.mz (R := False) (Pm := fun f => f = 0) (Qm := fun _ _ => False) (T0_z rfl) (fun f x => by unfold pAll at x; omega) (fun c a x => ⟨by unfold qAll at x; omega, fun z => z⟩)
theorem op_place (hI : Inv D σ) (h1 : ∀ (x0 : Int32) (σ1 : AS), XK σ σ1 → AMet G l M_X12_place (d + 36) 0 0 [xR (some (13, 0))] σ1 (P (some (xI x0))) → Q (some (xI x0)) σ1) (h2 : ∀ x σ2, Inv D σ2 → XK σ σ2 → P (some (xI x)) (some (xI x)) σ2) : AMet G l M_X11_place (d + 36) 0 0 [xR (some (12, 0))] σ Q := by
  obtain ⟨N, K, q, a0, n, an, A, R, F, T, mvn, lkn, asg, b, ab, fP, fS, mv, lk, per, ax, tq, tc, tt, tf, w, rf, rg, Rs, pl, hC, hO, hM⟩ := id hI
  have e1 : gI σ 10 1 0 = pl := hC.2.2.2.1.2.2
  have e2 : gI σ 13 26 0 = pl := hM.2.2.2.2.2.2.2.2
  refine c_place hC.1.1 (h1 _ σ XK.rf (m_place ?_))
  rw [e1, e2]
  exact h2 _ _ hI.t0 XK.t0
theorem Inv.calM {σ : AS} {N K : Nat} {asg : Nat → Option Nat} {per : Nat → Nat → Int32} (m1 : PerM2 σ N per) (m2 : CalM2 σ N asg) (hN : N ≤ 40) (hK : K ≤ 6) (hA : ∀ p, p < N → ∀ a, asg p = some a → a < K) : CalM σ N K asg := ⟨m2, hA, hK, hN, m1.1⟩
theorem op_about {x w : Int32} (hI : Inv D σ) (h1 : ∀ (x0 : Int32) (σ1 : AS), XK σ σ1 → AMet G l M_X12_about (d + 36) 0 0 [xR (some (13, 0)), xI x, xI w] σ1 (P (some (xI x0))) → Q (some (xI x0)) σ1) (h2 : ∀ x σ2, Inv D σ2 → XK σ σ2 → P (some (xI x)) (some (xI x)) σ2) : AMet G l M_X11_about (d + 36) 0 0 [xR (some (12, 0)), xI x, xI w] σ Q := by
  obtain ⟨N, K, q, a0, n, an, A, R, F, T, mvn, lkn, asg, b, ab, fP, fS, mv, lk, per, ax, tq, tc, tt, tf, w', rf, rg, Rs, pl, ⟨c1, c2, c3, c4, c5, c6, c7, c8, c9⟩, ⟨o1, o2, o3, o4, o5, o6, o7, o8, o9⟩, ⟨m1, m2, m3, m4, m5, m6, m7, m8, m9⟩⟩ := id hI
  have hg : ∀ p, p < N → (∀ f, 1 ≤ f → f ≤ 5 → gA σ 26 (f - 1) p = (fun p f => gI σ 6 f p) p f) ∧ bZ (gA σ 21 0 p) = bZ ((fun p f => gI σ 6 f p) p 6) ∧ gA σ 26 5 p = (fun p f => gI σ 6 f p) p 7 ∧ gA σ 26 6 p = (fun p f => gI σ 6 f p) p 8 := fun p hp => by
    obtain ⟨e1, e2, e3, e4⟩ := m1.2.1 p hp
    exact ⟨fun f f1 f2 => (e1 f f1 f2).trans (c6 p hp f (by omega)).symm, by rw [e2, ← c6 p hp 6 (by decide)], e3.trans (c6 p hp 7 (by decide)).symm, e4.trans (c6 p hp 8 (by decide)).symm⟩
  refine c_about (N := N) c1.1 c1.2.1 (fun no => h1 _ σ XK.rf (m_about (g := fun p f => gI σ 6 f p) c1.1 o2 m1.1 hg (fun _ => h2 _ _ hI.t0 XK.t0) (fun p hp e => absurd e (no p hp)))) (fun p hp e => h1 _ σ XK.rf (m_about (g := fun p f => gI σ 6 f p) c1.1 o2 m1.1 hg (fun no => absurd e (no p hp)) (fun p' hp' e' => ?_)))
  have := (nI_eq (by omega) (by omega)).mp (e.symm.trans e')
  subst this
  exact h2 _ _ hI.t0 XK.t0
theorem op_called {x : Int32} (hI : Inv D σ) (h1 : ∀ (x0 : Int32) (σ1 : AS), XK σ σ1 → AMet G l M_X12_called (d + 36) 0 0 [xR (some (13, 0)), xI x] σ1 (P (some (xI x0))) → Q (some (xI x0)) σ1) (h2 : ∀ x σ2, Inv D σ2 → XK σ σ2 → P (some (xI x)) (some (xI x)) σ2) : AMet G l M_X11_called (d + 36) 0 0 [xR (some (12, 0)), xI x] σ Q := by
  obtain ⟨N, K, q, a0, n, an, A, R, F, T, mvn, lkn, asg, b, ab, fP, fS, mv, lk, per, ax, tq, tc, tt, tf, w', rf, rg, Rs, pl, ⟨c1, c2, c3, c4, c5, c6, c7, c8, c9⟩, ⟨o1, o2, o3, o4, o5, o6, o7, o8, o9⟩, ⟨m1, m2, m3, m4, m5, m6, m7, m8, m9⟩⟩ := id hI
  have hC := Inv.calM m1 m2 o2 o4.1 c2.2.1
  refine c_called c1 c2 (fun no => h1 _ σ XK.rf (m_called c1.1 hC (fun _ => h2 _ _ hI.t0 XK.t0) (fun p hp e => absurd e (no p hp)))) (fun p hp e => h1 _ σ XK.rf (m_called c1.1 hC (fun no => absurd e (no p hp)) (fun p' hp' e' => ?_)))
  have := (nI_eq (by omega) (by omega)).mp (e.symm.trans e')
  subst this
  exact h2 _ _ hI.t0 XK.t0
theorem op_ask {x w : Int32} (hI : Inv D σ) (h1 : ∀ (x0 : Int32) (σ1 : AS), XK σ σ1 → AMet G l M_X12_ask (d + 36) 0 0 [xR (some (13, 0)), xI x, xI w] σ1 (P (some (xI x0))) → Q (some (xI x0)) σ1) (h2 : ∀ x σ2, Inv D σ2 → XK σ σ2 → P (some (xI x)) (some (xI x)) σ2) : AMet G l M_X11_ask (d + 36) 0 0 [xR (some (12, 0)), xI x, xI w] σ Q := by
  obtain ⟨N, K, q, a0, n, an, A, R, F, T, mvn, lkn, asg, b, ab, fP, fS, mv, lk, per, ax, tq, tc, tt, tf, w', rf, rg, Rs, pl, ⟨c1, c2, c3, c4, c5, c6, c7, c8, c9⟩, ⟨o1, o2, o3, o4, o5, o6, o7, o8, o9⟩, ⟨m1, m2, m3, m4, m5, m6, m7, m8, m9⟩⟩ := id hI
  have hC := Inv.calM m1 m2 o2 o4.1 c2.2.1
  have hK := o4.1
  have hg : ∀ a, a < K → gA σ 26 10 a = (fun a f => gI σ 2 f (a0 + a)) a 1 ∧ gA σ 26 11 a = (fun a f => gI σ 2 f (a0 + a)) a 2 ∧ gA σ 26 12 a = (fun a f => gI σ 2 f (a0 + a)) a 3 ∧ gA σ 26 13 a = (fun a f => gI σ 2 f (a0 + a)) a 4 ∧ nI (cA asg a N) = (fun a f => gI σ 2 f (a0 + a)) a 6 := fun a ha => by
    obtain ⟨e1, e2, e3, e4, e5⟩ := m5.2.2 a ha
    obtain ⟨f1, f2, f3, f4, f5, f6⟩ := c7 a ha
    exact ⟨e1.trans f1.symm, e2.trans f2.symm, e3.trans f3.symm, e4.trans f4.symm, (c2.2.2 a ha).symm⟩
  refine c_ask c1 (fun no => h1 _ σ XK.rf (m_ask (g := fun a f => gI σ 2 f (a0 + a)) c1.1 hC m5.1 hg (fun _ => h2 _ _ hI.t0 XK.t0) (fun p hp e => absurd e (no p hp)))) (fun p hp e => h1 _ σ XK.rf (m_ask (g := fun a f => gI σ 2 f (a0 + a)) c1.1 hC m5.1 hg (fun no => absurd e (no p hp)) (fun p' hp' e' => ?_)))
  have := (nI_eq (by omega) (by omega)).mp (e.symm.trans e')
  subst this
  exact h2 _ _ hI.t0 XK.t0
theorem op_moved {x : Int32} (hI : Inv D σ) (h1 : ∀ (x0 : Int32) (σ1 : AS), XK σ σ1 → AMet G l M_X12_moved (d + 36) 0 0 [xR (some (13, 0)), xI x] σ1 (P (some (xI x0))) → Q (some (xI x0)) σ1) (h2 : ∀ x σ2, Inv D σ2 → XK σ σ2 → P (some (xI x)) (some (xI x)) σ2) : AMet G l M_X11_moved (d + 36) 0 0 [xR (some (12, 0)), xI x] σ Q := by
  obtain ⟨N, K, q, a0, n, an, A, R, F, T, mvn, lkn, asg, b, ab, fP, fS, mv, lk, per, ax, tq, tc, tt, tf, w', rf, rg, Rs, pl, ⟨c1, c2, c3, c4, c5, c6, c7, c8, c9⟩, ⟨o1, o2, o3, o4, o5, o6, o7, o8, o9⟩, ⟨m1, m2, m3, m4, m5, m6, m7, m8, m9⟩⟩ := id hI
  have hn := o9.2.2.1
  refine c_moved c1.1 c5.2.2.2.1 (fun no => h1 _ σ XK.rf (m_moved (b := mv) c1.1 o9.2.2.1 m8.1.1 m8.1.2 (fun _ => h2 _ _ hI.t0 XK.t0) (fun p hp e => absurd e (no p hp)))) (fun p hp e => h1 _ σ XK.rf (m_moved (b := mv) c1.1 o9.2.2.1 m8.1.1 m8.1.2 (fun no => absurd e (no p hp)) (fun p' hp' e' => ?_)))
  have := (nI_eq (by omega) (by omega)).mp (e.symm.trans e')
  subst this
  exact h2 _ _ hI.t0 XK.t0
theorem op_lacks {x : Int32} (hI : Inv D σ) (h1 : ∀ (x0 : Int32) (σ1 : AS), XK σ σ1 → AMet G l M_X12_lacks (d + 36) 0 0 [xR (some (13, 0)), xI x] σ1 (P (some (xI x0))) → Q (some (xI x0)) σ1) (h2 : ∀ x σ2, Inv D σ2 → XK σ σ2 → P (some (xI x)) (some (xI x)) σ2) : AMet G l M_X11_lacks (d + 36) 0 0 [xR (some (12, 0)), xI x] σ Q := by
  obtain ⟨N, K, q, a0, n, an, A, R, F, T, mvn, lkn, asg, b, ab, fP, fS, mv, lk, per, ax, tq, tc, tt, tf, w', rf, rg, Rs, pl, ⟨c1, c2, c3, c4, c5, c6, c7, c8, c9⟩, ⟨o1, o2, o3, o4, o5, o6, o7, o8, o9⟩, ⟨m1, m2, m3, m4, m5, m6, m7, m8, m9⟩⟩ := id hI
  have hn := o9.2.2.2
  refine c_lacks c1.1 c5.2.2.2.2 (fun no => h1 _ σ XK.rf (m_lacks (b := lk) c1.1 o9.2.2.2 m8.2.1 m8.2.2 (fun _ => h2 _ _ hI.t0 XK.t0) (fun p hp e => absurd e (no p hp)))) (fun p hp e => h1 _ σ XK.rf (m_lacks (b := lk) c1.1 o9.2.2.2 m8.2.1 m8.2.2 (fun no => absurd e (no p hp)) (fun p' hp' e' => ?_)))
  have := (nI_eq (by omega) (by omega)).mp (e.symm.trans e')
  subst this
  exact h2 _ _ hI.t0 XK.t0
theorem op_buses {x y : Int32} (hI : Inv D σ) (h1 : ∀ (x0 : Int32) (σ1 : AS), XK σ σ1 → AMet G l M_X12_buses (d + 36) 0 0 [xR (some (13, 0)), xI x, xI y] σ1 (P (some (xI x0))) → Q (some (xI x0)) σ1) (h2 : ∀ x σ2, Inv D σ2 → XK σ σ2 → P (some (xI x)) (some (xI x)) σ2) : AMet G l M_X11_buses (d + 36) 0 0 [xR (some (12, 0)), xI x, xI y] σ Q := by
  obtain ⟨N, K, q, a0, n, an, A, R, F, T, mvn, lkn, asg, b, ab, fP, fS, mv, lk, per, ax, tq, tc, tt, tf, w', rf, rg, Rs, pl, ⟨c1, c2, c3, c4, c5, c6, c7, c8, c9⟩, ⟨o1, o2, o3, o4, o5, o6, o7, o8, o9⟩, ⟨m1, m2, m3, m4, m5, m6, m7, m8, m9⟩⟩ := id hI
  have hC := Inv.calM m1 m2 o2 o4.1 c2.2.1
  have hh : ∀ p, p < N → gA σ 26 3 p = (fun p => gI σ 6 4 p) p := fun p hp => ((m1.2.1 p hp).1 4 (by decide) (by decide)).trans (c6 p hp 4 (by decide)).symm
  refine c_buses c1 c2 (fun no => h1 _ σ XK.rf (m_buses (home := fun p => gI σ 6 4 p) c1.1 hC hh (fun _ => h2 _ _ hI.t0 XK.t0) (fun y1 y2 => absurd ⟨y1, y2⟩ no))) (fun y1 y2 => h1 _ σ XK.rf (m_buses (home := fun p => gI σ 6 4 p) c1.1 hC hh (fun no => absurd ⟨y1, y2⟩ no) (fun _ _ => h2 _ _ hI.t0 XK.t0)))
theorem op_count {x : Int32} (hI : Inv D σ) (h1 : ∀ (x0 : Int32) (σ1 : AS), XK σ σ1 → AMet G l M_X12_count (d + 36) 0 0 [xR (some (13, 0)), xI x] σ1 (P (some (xI x0))) → Q (some (xI x0)) σ1) (h2 : ∀ x σ2, Inv D σ2 → XK σ σ2 → P (some (xI x)) (some (xI x)) σ2) : AMet G l M_X11_count (d + 36) 0 0 [xR (some (12, 0)), xI x] σ Q := by
  obtain ⟨N, K, q, a0, n, an, A, R, F, T, mvn, lkn, asg, b, ab, fP, fS, mv, lk, per, ax, tq, tc, tt, tf, w', rf, rg, Rs, pl, ⟨c1, c2, c3, c4, c5, c6, c7, c8, c9⟩, ⟨o1, o2, o3, o4, o5, o6, o7, o8, o9⟩, ⟨m1, m2, m3, m4, m5, m6, m7, m8, m9⟩⟩ := id hI
  have hC := Inv.calM m1 m2 o2 o4.1 c2.2.1
  exact c_count c1 c2 c8.1 c9.1 c5.1 c5.2.1 (h1 _ σ XK.rf (m_count (g := fun i => match i with | 0 => nI N | 1 => nI K | 2 => nI A | 3 => nI F | 4 => gI σ 12 10 0 | 5 => nI (cAll asg N) | 6 => nI n | _ => nI R) c1.1 hC m1.1 m5.1 m6.1 m3.1 (m7.2.1.trans c4.1.symm) rfl m4.1 m7.1 (h2 _ _ hI.t0 XK.t0)))
end OPS1
