/-! Calls: tell. -/
section OPS4
variable {G : GG} {l : Launch} {d D : Nat} {σ : AS} {Q : Option AVal → AS → Prop} {P : Option AVal → Option AVal → AS → Prop}
theorem NF.rw {σ' : AS} {r n : Nat} {b : Nat → Int32} (h : NF σ σ') (hS : St σ) (hr : r < 6) (h2 : r ≠ 2) (h3 : r ≠ 3) (k : RW σ r n b) : RW σ' r n b := by
  obtain ⟨k1, k2, k3⟩ := k.out hS hr
  refine RW.mk (h.st hS) hr ((h.2.2.2.2.1 r h2 h3).trans k1) k2 (fun i hi => ?_)
  rw [h.2.2.2.2.2.1 _ i (fun e => h2 (rArr_inj hr (by decide) e)) (fun e => h3 (rArr_inj hr (by decide) e))]
  exact k3 i hi
def PmF : Nat → Prop := fun f => f = 0 ∨ f = 12 ∨ f = 13
def QmF : Nat → Nat → Prop := fun c a => c = 26 ∧ (a = 8 ∨ a = 9)
theorem op_tell {x sc : Int32} (hI : Inv D σ) (h1 : ∀ (x0 : Int32) (σ1 : AS), XK σ σ1 → AMet G l M_X12_tell (d + 36) 0 0 [xR (some (13, 0)), xI x, xI sc] σ1 (P (some (xI x0))) → Q (some (xI x0)) σ1) (h2 : ∀ x σ2, Inv D σ2 → XK σ σ2 → P (some (xI x)) (some (xI x)) σ2) : AMet G l M_X11_tell (d + 36) 0 0 [xR (some (12, 0)), xI x, xI sc] σ Q := by
  obtain ⟨N, K, q, a0, n, an, A, R, F, T, mvn, lkn, asg, b, ab, fP, fS, mv, lk, per, ax, tq, tc, tt, tf, w', rf, rg, Rs, pl, ⟨c1, c2, c3, c4, c5, c6, c7, c8, c9⟩, hO, hM⟩ := id hI
  obtain ⟨o1, o2, o3, o4, o5, o6, o7, o8, o9⟩ := id hO
  have hS := c1.1
  have hF := hO.facts
  refine c_tell (N := N) hS c1.2.1 c5.2.1 c5.2.2.1 c4.2.1 o9.1 (fun _ => by omega) (fun no => h1 _ σ XK.rf (m_tell hS o2 hM.1.1 hM.2.2.1.1 hM.2.2.1.2.1 o9.1 (fun _ => by omega) (fun _ => h2 _ _ hI.t0 XK.t0) (fun p hp e z1 z2 z3 => absurd ⟨⟨p, hp, e⟩, ⟨z1, z2⟩, z3⟩ no))) (fun p hp e z1 z2 z3 σ1 k nf k5 k6 k69 r2 r3 => ?_)
  have S0 : St (sI σ 5 2 0 (nI (T + 1))) := hS.sI
  have S1 : St σ1 := nf.st S0
  have M1 := hM.keepC (σ' := σ1) (k.sub (fun c hc => by unfold MK at hc; omega))
  refine h1 _ σ1 (XK.of k (by decide) (by decide)) (m_tell S1 o2 M1.1.1 M1.2.2.1.1 M1.2.2.1.2.1 o9.1 (fun _ => by omega) (fun no => absurd ⟨⟨p, hp, e⟩, ⟨z1, z2⟩, z3⟩ no) (fun p' hp' e' _ _ _ => ?_))
  obtain ⟨v, hv, ev⟩ : ∃ v, v < 20 ∧ sc = nI v := by
    obtain ⟨v, hv, ev⟩ := nI_of z1
    have := Int32.not_lt.mp z2
    rw [ev] at this
    have := (nI_leI (b := 19) hv (by decide)).mp this
    exact ⟨v, by omega, ev⟩
  have e60 : gI σ 6 0 p = nI p := c1.2.2.2.2.1 p hp
  rw [e60] at r2
  have Z : MZ False PmF QmF σ1 (telM σ1 F T x sc) := MZ.set (MZ.setA (MZ.setA (MZ.set (T0_z (Or.inl rfl)) (Or.inr (Or.inr rfl))) (Or.inr (Or.inr rfl)) ⟨rfl, Or.inl rfl⟩) (Or.inr (Or.inr rfl)) ⟨rfl, Or.inr rfl⟩) (Or.inr (Or.inl rfl))
  have k0 : sameK (fun c => c = 0 ∨ c = 23) σ σ1 := k.sub (fun c hc => by rcases hc with rfl | rfl <;> decide)
  have n6 := nf.2.1 6 (Or.inl rfl)
  have x6 : ∀ f i, gR σ1 6 f i = gR σ 6 f i := n6.2.2 (by decide)
  have g2 := k 2 (by decide)
  have rr : ∀ {r m : Nat} {y : Nat → Int32}, r < 6 → r ≠ 2 → r ≠ 3 → RW σ r m y → RW σ1 r m y := fun hr y2 y3 z => nf.rw S0 hr y2 y3 (z.same (P := fun c => c ≠ 5) (fun c hc => eqK_sI hc) (by decide) (by decide))
  have C1 : CI σ1 D N K q a0 n an A R (F + 1) (T + 1) mvn lkn asg b ab (snoc fP F (nI p)) (snoc fS F sc) mv lk (updP per p 9 (per p 9 ||| (1 <<< (sc &&& 31)))) ax tq tc tt tf w' rf rg pl := by
    refine ⟨c1.same S1 k0 n6.1 (fun y => k6 0 y (by omega)) ((k 7 (by decide)).2.2.1 0 0) g2.1 (fun y => g2.2.1 0 y), c2.same (fun y _ => x6 11 y) (fun y => g2.2.1 6 y), c3.same k0, ⟨((k 12 (by decide)).2.1 10 0).trans c4.1, k5, ((k 10 (by decide)).2.1 1 0).trans c4.2.2⟩, ⟨rr (by decide) (by decide) (by decide) c5.1, r2, r3, rr (by decide) (by decide) (by decide) c5.2.2.2.1, rr (by decide) (by decide) (by decide) c5.2.2.2.2⟩, fun y hy f hf => ?_, c7.same (fun f y _ => g2.2.1 f y) (fun f y => g2.2.2.1 f y) (k 25 (by decide)), c8.same k0 (k 1 (by decide)) (k 9 (by decide)), c9.same k0 (k 11 (by decide))⟩
    by_cases c : y = p ∧ f = 9
    · obtain ⟨rfl, rfl⟩ := c
      rw [updP_s, k69, c6 y hy 9 (by decide)]
    · rw [updP_o c, k6 f y (fun z => c ⟨z.2, z.1⟩)]; exact c6 y hy f hf
  refine h2 _ _ ⟨N, K, q, a0, n, an, A, R, F + 1, T + 1, mvn, lkn, asg, b, ab, _, _, mv, lk, _, ax, tq, tc, tt, tf, w', rf, rg, Rs, pl, C1.keep Z.1 (Z.st S1), ⟨o1, o2, o3, o4, o5, fun y hy => ?_, ⟨fun y hy u hu => ?_, fun i hi => ?_⟩, o8, ⟨by omega, by omega, o9.2.2⟩⟩, ?_⟩ ((XK.of k (by decide) (by decide)).tr (XK.mz Z))
  · obtain ⟨e0, e1, e2, e3⟩ := o6 y hy
    exact ⟨(updP_o (by omega)).trans e0, by rw [updP_o (by omega)]; exact e1, by rw [updP_o (by omega)]; exact e2, by rw [updP_o (by omega)]; exact e3⟩
  · have t1 : timN (snoc fP F (nI p)) (snoc fS F sc) (nI y) (nI u) (F + 1) = timN fP fS (nI y) (nI u) F + (if nI p = nI y ∧ sc = nI u then 1 else 0) := by
      rw [timN, timN_congr (P' := fP) (S' := fS) F (fun i hi => by unfold snoc; rw [if_neg (by omega), if_neg (by omega)]; exact ⟨rfl, rfl⟩)]
      have : snoc fP F (nI p) F = nI p ∧ snoc fS F sc F = sc := by unfold snoc; exact ⟨if_pos rfl, if_pos rfl⟩
      rw [this.1, this.2]
    rw [t1]
    have old := o7.1 y hy u hu
    by_cases c : y = p
    · subst c
      rw [updP_s, ev, jb_set _ (by omega) (by omega), Bool.or_eq_true_iff, decide_eq_true_iff, ← old]
      by_cases cu : u = v
      · subst cu
        rw [if_pos ⟨rfl, rfl⟩]
        exact ⟨fun _ => Or.inr rfl, fun _ => by omega⟩
      · rw [if_neg (fun z => cu ((nI_eq (by omega) (by omega)).mp z.2).symm), Nat.add_zero]
        exact ⟨fun z => Or.inl z, fun z => z.resolve_right cu⟩
    · rw [updP_o (fun z => c z.1), if_neg (fun z => c ((nI_eq (by omega) (by omega)).mp z.1).symm), Nat.add_zero]
      exact old
  · unfold snoc
    by_cases c : i = F
    · rw [if_pos c]; exact ⟨p, hp, rfl⟩
    · rw [if_neg c]; exact o7.2 i (by omega)
  · obtain ⟨n1, n2, n3, n4, n5, n6', n7, n8, n9⟩ := M1
    refine ⟨⟨(Z.2.2.2.2.1 1 0 (by unfold PmF; omega)).trans n1.1, fun y hy => ?_, fun y y1 y2 => ?_⟩, n2.keep (EqM.mz Z (fun f x => x.elim) (fun c a x => by unfold qCal at x; unfold QmF; omega)), ⟨?_, ?_, fun i hi => ?_⟩, n4.keep (EqM.mz Z (fun f x => by unfold pTap at x; unfold PmF; omega) (fun c a x => by unfold qTap at x; unfold QmF; omega)), n5.keep (EqM.mz Z (fun f x => by unfold pAsk at x; unfold PmF; omega) (fun c a x => by unfold qAsk at x; unfold QmF; omega)), n6'.keep (EqM.mz Z (fun f x => by unfold pAg at x; unfold PmF; omega) (fun c a x => by unfold qAg at x; unfold QmF; omega)), n7.keep (EqM.mz Z (fun f x => by unfold pRec at x; unfold PmF; omega) (fun c a x => by unfold qRec at x; unfold QmF; omega)), n8.keep (EqM.mz Z (fun f x => by unfold pMov at x; unfold PmF; omega) (fun c a x => by unfold qMov at x; unfold QmF; omega)), (Z.2.2.2.2.1 26 0 (by unfold PmF; omega)).trans n9⟩
    · obtain ⟨e1, e2, e3, e4⟩ := n1.2.1 y hy
      have a : ∀ c x j, c ≠ 13 → ¬ QmF c x → gA (telM σ1 F T (nI p) sc) c x j = gA σ1 c x j := fun c x j h1 h2 => by rw [← e]; exact Z.2.2.2.2.2 c x j h1 h2
      rw [e]
      refine ⟨fun f f1 f2 => ?_, ?_, ?_, ?_⟩
      · rw [updP_o (by omega), a 26 _ _ (by decide) (by unfold QmF; omega)]; exact e1 f f1 f2
      · rw [updP_o (by omega), a 21 _ _ (by decide) (by unfold QmF; omega)]; exact e2
      · rw [updP_o (by omega), a 26 _ _ (by decide) (by unfold QmF; omega)]; exact e3
      · rw [updP_o (by omega), a 26 _ _ (by decide) (by unfold QmF; omega)]; exact e4
    · obtain ⟨u1, u2, u3⟩ := n1.2.2 y y1 y2
      exact ⟨(Z.2.2.2.2.2 21 0 y (by decide) (by unfold QmF; omega)).trans u1, (Z.2.2.2.2.2 26 5 y (by decide) (by unfold QmF; omega)).trans u2, (Z.2.2.2.2.2 26 6 y (by decide) (by unfold QmF; omega)).trans u3⟩
    · exact gI_self
    · unfold telM
      rw [gI_o (by decide)]
      show gI (sI (T0 σ1) 13 13 0 (nI (T + 1))) 13 13 0 = _
      exact gI_self
    · unfold telM
      show gA (sA (sA (sI (T0 σ1) 13 13 0 (nI (T + 1))) 26 8 F x) 26 9 F sc) 26 8 i = _ ∧ gA (sA (sA (sI (T0 σ1) 13 13 0 (nI (T + 1))) 26 8 F x) 26 9 F sc) 26 9 i = _
      unfold snoc
      by_cases c : i = F
      · subst c
        rw [if_pos rfl, if_pos rfl, gA_o (by omega), gA_self, gA_self, e]
        exact ⟨rfl, rfl⟩
      · rw [if_neg c, if_neg c, gA_o (by omega), gA_o (by omega), gA_o (by omega), gA_o (by omega)]
        exact n3.2.2 i (by omega)
end OPS4
