/-! Calls: fits, person, tell. -/
section OPS3
variable {G : GG} {l : Launch} {d D : Nat} {σ : AS} {Q : Option AVal → AS → Prop} {P : Option AVal → Option AVal → AS → Prop}
section
variable {post : Option AVal → AS → Prop}
/-- what fits needs, for all people and asks -/
def FitR (σ : AS) (N K : Nat) (v cn : Nat → Nat → Bool) : Prop := ∀ p, p < N → ∀ a, a < K → ∃ n b i F g, TxtA σ n b a i ∧ PerM σ p F g ∧ (rdE n b i).1.1 = 0 ∧ valE g (rdE n b i).2 = v p a ∧ canM σ g (rdE n b i).2 p a = cn p a
def PFi : Nat → Prop := fun f => f = 0 ∨ (19 ≤ f ∧ f ≤ 28 ∧ f ≠ 26)
theorem m_fits {N K : Nat} {x y w : Int32} {v cn : Nat → Nat → Bool} (hS : St σ) (hN : N ≤ 40) (hK : K ≤ 6) (h1' : gI σ 13 1 0 = nI N) (h29 : gI σ 13 29 0 = nI K) (hR : FitR σ N K v cn)
    (h0 : ¬ ((∃ p, p < N ∧ x = nI p) ∧ (∃ a, a < K ∧ y = nI a) ∧ (¬ w < 0 ∧ ¬ 1 < w)) → post (some (xI (-1))) (T0 σ))
    (h1 : ∀ p a, p < N → a < K → x = nI p → y = nI a → (¬ w < 0 ∧ ¬ 1 < w) → w = 0 → ∀ σ', MZ True PFi QN σ σ' → post (some (xI (bI (v p a)))) σ')
    (h2 : ∀ p a, p < N → a < K → x = nI p → y = nI a → (¬ w < 0 ∧ ¬ 1 < w) → ¬ w = 0 → ∀ σ', MZ True PFi QN σ σ' → post (some (xI (bI (cn p a)))) σ') : AMet G l M_X12_fits (d + 36) 0 0 [xR (some (13, 0)), xI x, xI y, xI w] σ post := by
  have Z0 : MZ False (fun f => f = 0) QN σ (T0 σ) := T0_z rfl
  have Z0' : MZ True PFi QN σ (T0 σ) := T0_z (Or.inl rfl)
  refine AMet.of rfl (Nat.le_of_ble_eq_true rfl) (vc_X12_fits (d := d + 35) (m_isPerson hN ((T0_f (by decide)).trans h1') (fun z => ⟨fun _ => h0 (fun q => z q.1), fun q => absurd rfl q⟩) (fun p hp e => ⟨fun q => absurd q (by decide), fun _ => m_isAsk hK ((T0_f (by decide)).trans h29) (fun z => ⟨fun _ => h0 (fun q => z q.2.1), fun q => absurd rfl q⟩) (fun a ha ea => ⟨fun q => absurd q (by decide), fun _ => m_within (fun z => ⟨fun q => absurd rfl q, fun _ => h0 (fun q => z q.2.2)⟩) (fun wi => ⟨fun _ => ?_, fun q => absurd q (by decide)⟩)⟩)⟩)))
  obtain ⟨n, b, i, F, g, t1, t2, t3, t4, t5⟩ := hR p hp a ha
  have u1 : TxtA (T0 σ) n b a i := t1.keep Z0 (by decide) (fun q => q) (fun q => q)
  have u2 : PerM (T0 σ) p F g := t2.keep Z0 (by decide) (fun _ _ q => q)
  have u5 : canM (T0 σ) g (rdE n b i).2 p a = cn p a := by
    rw [← t5]; unfold canM; rw [T0_f (show (2 : Nat) ≠ 0 by decide)]; rfl
  rw [e, ea]
  refine ⟨fun c => m_canBe (d := d + 2) (σ := T0 σ) hS (by omega) (by omega) u1 u2 t3 (fun σ' Z => ?_), fun c => m_doesFit (d := d + 3) (σ := T0 σ) hS (by omega) (by omega) u1 u2 t3 (fun σ' Z => ?_)⟩
  · have k := h2 p a hp ha e ea wi c σ' (Z0'.tr (Z.mono id (fun f q => Or.inr ⟨q.1, q.2⟩) (fun c a q => q)))
    rw [u5]
    exact ⟨fun q => by rw [bI_eq.mp q] at k; exact k, fun q => by rw [bI_ne.mp q] at k; exact k⟩
  · have k := h1 p a hp ha e ea wi c σ' (Z0'.tr (Z.mono id (fun f q => Or.inr ⟨q.1, q.2⟩) (fun c a q => q)))
    rw [t4]
    exact ⟨fun q => by rw [bI_eq.mp q] at k; exact k, fun q => by rw [bI_ne.mp q] at k; exact k⟩
end
section
variable {N K q a0 n an A R F T mvn lkn : Nat} {asg : Nat → Option Nat} {b ab fP fS mv lk : Nat → Int32} {per : Nat → Nat → Int32} {ax tq tc : Nat → Nat} {tt : Nat → Nat → Nat} {tf : Nat → Nat → Nat → Int32} {w : Nat → Nat} {rf : Nat → Nat → Int32} {rg : Nat → Option Nat} {Rs : Nat → Nat} {pl : Int32}
theorem OK.facts (h : OK D N K n an A R F T mvn lkn b ab fP fS per tc tf w rf rg Rs) : R ≤ 40 * D ∧ F ≤ 2600 := by
  obtain ⟨o1, o2, o3, o4, o5, o6, o7, o8, o9⟩ := h
  have h1 := o8.2.1
  have h3 : Rs D ≤ 40 * D := by
    rcases Nat.eq_zero_or_pos D with z | z
    · subst z; rw [o8.1]; omega
    · obtain ⟨m, rfl⟩ : ∃ m, D = m + 1 := ⟨D - 1, by omega⟩
      exact (o8.2.2.1 m (by omega)).2
  omega
/-- the steps of ask a -/
def stp (an : Nat) (ab : Nat → Int32) (a : Nat) : List Int32 := (rdE an ab (hd an ab (ip an ab a)).2).2
theorem cpl (hC : CI σ D N K q a0 n an A R F T mvn lkn asg b ab fP fS mv lk per ax tq tc tt tf w rf rg pl) (hO : OK D N K n an A R F T mvn lkn b ab fP fS per tc tf w rf rg Rs) (hM : MI σ D N K n an A R F T mvn lkn asg b ab fP fS mv lk per tc tf w rf rg Rs pl) {p a : Nat} (hp : p < N) (ha : a < K) : TxtA σ an ab a (hd an ab (ip an ab a)).2 ∧ PerM σ p F (fun f => gI σ 6 f p) ∧ (rdE an ab (hd an ab (ip an ab a)).2).1.1 = 0 ∧ canM σ (fun f => gI σ 6 f p) (rdE an ab (hd an ab (ip an ab a)).2).2 p a = canC σ a0 (stp an ab) (nI D) p a := by
  obtain ⟨o1, o2, o3, o4, o5, o6, o7, o8, o9⟩ := id hO
  obtain ⟨m1, m2, m3, m4, m5, m6, m7, m8, m9⟩ := hM
  obtain ⟨c1, c2, c3, c4, c5, c6, c7, c8, c9⟩ := hC
  obtain ⟨q1, q2, q3, q4⟩ := o4.2.2 a ha
  obtain ⟨e1, e2, e3, e4⟩ := m1.2.1 p hp
  obtain ⟨y1, y2, y3, y4, y5⟩ := m5.2.2 a ha
  obtain ⟨z1, z2, z3, z4, z5, z6⟩ := c7 a ha
  have cc := c6 p hp
  refine ⟨⟨(m5.2.1 (by omega)).1, o4.2.1.1, (m5.2.1 (by omega)).2, o4.2.1.2, q3, y5⟩, ⟨m3.1, hO.facts.2, (e1 1 (by decide) (by decide)).trans (cc 1 (by decide)).symm, (e1 2 (by decide) (by decide)).trans (cc 2 (by decide)).symm, (e1 3 (by decide) (by decide)).trans (cc 3 (by decide)).symm, (e1 4 (by decide) (by decide)).trans (cc 4 (by decide)).symm, fun v hv => ?_⟩, q4, ?_⟩
  · rw [timN_congr (P' := fP) (S' := fS) F (fun i hi => m3.2.2 i hi)]
    show _ ↔ jb (gI σ 6 9 p) (nI v) = true
    rw [cc 9 (by decide)]
    exact o7.1 p hp v hv
  · unfold canM canC opn stp
    rw [e2, ← cc 6 (by decide), m7.2.1, y2, ← z2, e4, ← cc 8 (by decide)]
end
theorem op_fits {x y w : Int32} (hI : Inv D σ) (h1 : ∀ (x0 : Int32) (σ1 : AS), XK σ σ1 → AMet G l M_X12_fits (d + 36) 0 0 [xR (some (13, 0)), xI x, xI y, xI w] σ1 (P (some (xI x0))) → Q (some (xI x0)) σ1) (h2 : ∀ x σ2, Inv D σ2 → XK σ σ2 → P (some (xI x)) (some (xI x)) σ2) : AMet G l M_X11_fits (d + 36) 0 0 [xR (some (12, 0)), xI x, xI y, xI w] σ Q := by
  obtain ⟨N, K, q, a0, n, an, A, R, F, T, mvn, lkn, asg, b, ab, fP, fS, mv, lk, per, ax, tq, tc, tt, tf, w', rf, rg, Rs, pl, hC, hO, hM⟩ := id hI
  have o2 := hO.2.1
  have o4 := hO.2.2.2.1.1
  have fr : FitR σ N K (fun p a => valE (fun f => gI σ 6 f p) (stp an ab a)) (fun p a => canC σ a0 (stp an ab) (gI σ 12 10 0) p a) := fun p hp a ha => by
    obtain ⟨t1, t2, t3, t4⟩ := cpl hC hO hM hp ha
    exact ⟨an, ab, _, F, _, t1, t2, t3, rfl, by rw [t4, hC.2.2.2.1.1]⟩
  have inv : ∀ {σ' : AS}, MZ True PFi QN σ σ' → Inv D σ' := fun Z => hI.mz Z (fun f x => by unfold pAll at x; unfold PFi; omega) (fun c a x => ⟨by unfold qAll at x; omega, fun z => z⟩)
  have mf := fun (pp : Option AVal → AS → Prop) => m_fits (G := G) (l := l) (d := d) (post := pp) (x := x) (y := y) (w := w) hC.1.1 o2 o4 hM.1.1 hM.2.2.2.2.1.1 fr
  refine c_fits hC.1 (fun a ha => (hC.2.2.2.2.2.2.1 a ha).2.2.2.2.2) (fun no => h1 _ σ XK.rf (mf _ (fun _ => h2 _ _ hI.t0 XK.t0) (fun p a hp ha ex ey wi _ _ _ => absurd ⟨⟨p, hp, ex⟩, ⟨a, ha, ey⟩, wi⟩ no) (fun p a hp ha ex ey wi _ _ _ => absurd ⟨⟨p, hp, ex⟩, ⟨a, ha, ey⟩, wi⟩ no))) (fun p a hp ha ex ey wi c => h1 _ σ XK.rf (mf _ (fun no => absurd ⟨⟨p, hp, ex⟩, ⟨a, ha, ey⟩, wi⟩ no) (fun p' a' hp' ha' ex' ey' _ _ σ' Z => ?_) (fun _ _ _ _ _ _ _ c2 _ _ => absurd c c2))) (fun p a hp ha ex ey wi c => h1 _ σ XK.rf (mf _ (fun no => absurd ⟨⟨p, hp, ex⟩, ⟨a, ha, ey⟩, wi⟩ no) (fun _ _ _ _ _ _ _ c2 _ _ => absurd c2 c) (fun p' a' hp' ha' ex' ey' _ _ σ' Z => ?_)))
  · have i1 := (nI_eq (by omega) (by omega)).mp (ex.symm.trans ex')
    have i2 := (nI_eq (by omega) (by omega)).mp (ey.symm.trans ey')
    subst i1; subst i2
    exact h2 _ _ (inv Z) (XK.mz Z)
  · have i1 := (nI_eq (by omega) (by omega)).mp (ex.symm.trans ex')
    have i2 := (nI_eq (by omega) (by omega)).mp (ey.symm.trans ey')
    subst i1; subst i2
    exact h2 _ _ (inv Z) (XK.mz Z)
theorem AgC.lq {A : Nat} {ax tq tc : Nat → Nat} {tt : Nat → Nat → Nat} {tf : Nat → Nat → Nat → Int32} {σ' : AS} (h : AgC σ A ax tq tc tt tf) (k1' : 1 < cnt σ 0) (c0 : cnt σ 0 ≤ cnt σ' 0) (k : ∀ q n e, (q = 1 ∨ 6 ≤ q) → q < cnt σ 0 → AL σ q n e → AL σ' q n e) (k1 : eqK σ σ' 1) (k9 : eqK σ σ' 9) : AgC σ' A ax tq tc tt tf := ⟨k 1 _ _ (Or.inl rfl) k1' h.1, fun g hg => by
  obtain ⟨e1, e2, e3, e4, e5, e6⟩ := h.2 g hg
  refine ⟨by rw [k1.1]; exact e1, (k1.2.1 0 _).trans e2, (k1.2.2.1 1 _).trans e3, ⟨e4.1, by omega⟩, k _ _ _ (Or.inr e4.1) e4.2 e5, fun j hj => ?_⟩
  exact ⟨by rw [k9.1]; exact (e6 j hj).1, fun f hf => (k9.2.1 f _).trans ((e6 j hj).2 f hf)⟩⟩
theorem RecC.lq {R : Nat} {w : Nat → Nat} {rf : Nat → Nat → Int32} {rg : Nat → Option Nat} {ax : Nat → Nat} {σ' : AS} (h : RecC σ R w rf rg ax) (k : ∀ n e, AL σ 5 n e → AL σ' 5 n e) (k11 : eqK σ σ' 11) : RecC σ' R w rf rg ax := ⟨k _ _ h.1, k11.1.trans h.2.1, fun r hr => by
  obtain ⟨e1, e2, e3⟩ := h.2.2 r hr
  exact ⟨(k11.2.2.1 0 r).trans e1, fun f hf => (k11.2.1 f r).trans (e2 f hf), (k11.2.2.1 8 r).trans e3⟩⟩
def PmP : Nat → Prop := fun f => f = 0 ∨ f = 1
def QmP : Nat → Nat → Prop := fun c a => c = 26 ∧ (a ≤ 4 ∨ a = 7)
theorem okP_slow {x1 x2 x3 x4 x5 : Int32} (h : okP x1 x2 x3 x4 x5) : ∃ s, s ≤ 30 ∧ x5 = nI s := by
  obtain ⟨-, -, -, -, h1, h2⟩ := h
  obtain ⟨s, hs, e⟩ := nI_of (x := x5) (fun z => h1 (Int32.lt_trans z (by decide)))
  have := Int32.not_lt.mp h2
  rw [e] at this
  exact ⟨s, (nI_leI (b := 30) hs (by decide)).mp this, e⟩
theorem op_person {x1 x2 x3 x4 x5 : Int32} {kk nn : Nat} (hkk : 2 ≤ kk) (hnn : 72 ≤ nn) (hI : Inv D σ) (h1 : ∀ (x0 : Int32) (σ1 : AS), XK σ σ1 → AMet G l M_X12_person (d + 36) 0 0 [xR (some (13, 0)), xI x1, xI x2, xI x3, xI x4, xI x5] σ1 (P (some (xI x0))) → Q (some (xI x0)) σ1) (h2 : ∀ x σ2, Inv D σ2 → XK σ σ2 → P (some (xI x)) (some (xI x)) σ2) : AMet G l M_X11_person (d + 36) kk nn [xR (some (12, 0)), xI x1, xI x2, xI x3, xI x4, xI x5] σ Q := by
  obtain ⟨N, K, q, a0, n, an, A, R, F, T, mvn, lkn, asg, b, ab, fP, fS, mv, lk, per, ax, tq, tc, tt, tf, w', rf, rg, Rs, pl, ⟨c1, c2, c3, c4, c5, c6, c7, c8, c9⟩, ⟨o1, o2, o3, o4, o5, o6, o7, o8, o9⟩, hM⟩ := id hI
  have hS := c1.1
  refine c_person (N := N) hS c3.1 c1.2.1 (by have := c3.2.1; omega) o2 c1.2.2.2.1 hkk hnn (fun no => h1 _ σ XK.rf (m_person hS o2 hM.1.1 (fun _ => h2 _ _ hI.t0 XK.t0) (fun y1 y2 => absurd ⟨y1, y2⟩ no))) (fun y1 y2 σ1 k old lq k6 al pn => ?_)
  have S1 : St σ1 := hS.same k (fun c hc => by unfold stKind at hc; omega)
  have M1 := hM.keepC (σ' := σ1) (k.sub (fun c hc => by unfold MK at hc; omega))
  refine h1 _ σ1 (XK.of k (by decide) (by decide)) (m_person S1 o2 M1.1.1 (fun no => absurd ⟨y1, y2⟩ no) (fun _ _ σ2 Z g1 z0 z1 v0 v1 v2 v3 v4 v7 => ?_))
  have Z' : MZ False PmP QmP σ1 σ2 := Z.mono id (fun f x => x) (fun c a x => x)
  have q0 : q ≠ 0 := by have := c3.2.2.2; omega
  have ncA : ∀ a, cA (fun p => if p = N then none else asg p) a (N + 1) = cA asg a N := fun a => by
    rw [cA, if_neg (by rw [if_pos rfl]; simp), Nat.add_zero]
    exact cA_congr N (fun p hp => by rw [if_neg (by omega)])
  have C1 : CI σ1 D (N + 1) K q a0 n an A R F T mvn lkn (fun p => if p = N then none else asg p) b ab fP fS mv lk (fun p f => if p = N then gI σ1 6 f N else per p f) ax tq tc tt tf w' rf rg pl := by
    refine ⟨⟨S1, al, by omega, k6, fun p hp => ?_, ((k 7 (by decide)).2.2.1 0 0).trans c1.2.2.2.2.2.1, lq.2.2.1 q _ _ q0 c3.2.2.1 c1.2.2.2.2.2.2.1, c1.2.2.2.2.2.2.2.1, by rw [(k 2 (by decide)).1]; exact c1.2.2.2.2.2.2.2.2.1, fun a ha => ((k 2 (by decide)).2.1 0 _).trans (c1.2.2.2.2.2.2.2.2.2 a ha)⟩, ⟨fun p hp => ?_, fun p hp a ha => ?_, fun a ha => ?_⟩, ⟨lq.2.1 c3.1, by rw [lq.1]; exact c3.2.1, by rw [lq.1]; exact c3.2.2.1, c3.2.2.2⟩, ⟨((k 12 (by decide)).2.1 10 0).trans c4.1, ((k 5 (by decide)).2.1 2 0).trans c4.2.1, ((k 10 (by decide)).2.1 1 0).trans c4.2.2⟩, c5.same (k.sub (fun c hc => by rcases hc with rfl | rfl <;> decide)), fun p hp f hf => ?_, c7.same (fun f x _ => (k 2 (by decide)).2.1 f x) (fun f x => (k 2 (by decide)).2.2.1 f x) (k 25 (by decide)), c8.lq (by have := c3.2.1; omega) (Nat.le_of_eq lq.1.symm) (fun q n e hq hl z => lq.2.2.1 q n e (by omega) hl z) (k 1 (by decide)) (k 9 (by decide)), c9.lq (fun n e z => lq.2.2.1 5 n e (by decide) c3.2.1 z) (k 11 (by decide))⟩
    · by_cases e : p = N
      · subst e; exact pn.1
      · exact ((old.2 p (by omega)).1 0).trans (c1.2.2.2.2.1 p (by omega))
    · dsimp only
      by_cases e : p = N
      · subst e; rw [if_pos rfl]; exact pn.2.2.2.2.2.2.2
      · rw [if_neg e]; exact ((old.2 p (by omega)).2 11).trans (c2.1 p (by omega))
    · dsimp only at ha
      by_cases e : p = N
      · rw [if_pos e] at ha; cases ha
      · rw [if_neg e] at ha; exact c2.2.1 p (by omega) a ha
    · rw [ncA]; exact ((k 2 (by decide)).2.1 6 _).trans (c2.2.2 a ha)
    · dsimp only
      by_cases e : p = N
      · subst e; rw [if_pos rfl]
      · rw [if_neg e]; exact ((old.2 p (by omega)).1 f).trans (c6 p (by omega) f hf)
  refine h2 _ _ ⟨N + 1, K, q, a0, n, an, A, R, F, T, mvn, lkn, _, b, ab, fP, fS, mv, lk, _, ax, tq, tc, tt, tf, w', rf, rg, Rs, pl, C1.keep Z.1 (Z.st S1), ⟨o1, by omega, o3, o4, o5, fun p hp => ?_, ⟨fun p hp v hv => ?_, fun i hi => ?_⟩, ⟨o8.1, o8.2.1, o8.2.2.1, fun r hr => ?_, o8.2.2.2.2⟩, o9⟩, ?_⟩ ((XK.of k (by decide) (by decide)).tr (XK.mz Z))
  · dsimp only
    by_cases e : p = N
    · subst e
      rw [if_pos rfl, if_pos rfl, if_pos rfl, if_pos rfl]
      refine ⟨pn.1, ?_, ⟨0, Nat.zero_le _, (pn.2.2.2.2.2.2.1 7 (by decide)).trans nI_0.symm⟩, Or.inl (pn.2.2.2.2.2.2.1 6 (by decide))⟩
      rw [pn.2.2.2.2.2.1]; exact okP_slow y1
    · rw [if_neg e, if_neg e, if_neg e, if_neg e]; exact o6 p (by omega)
  · by_cases e : p = N
    · subst e
      dsimp only
      rw [if_pos rfl, pn.2.2.2.2.2.2.1 9 (by decide), jb_0 (by omega)]
      have z : ∀ k, k ≤ F → timN fP fS (nI p) (nI v) k = 0 := by
        intro k
        induction k with
        | zero => intro _; rfl
        | succ k ih =>
          intro hk
          rw [timN, ih (by omega), if_neg]
          rintro ⟨e1, -⟩
          obtain ⟨y, hy, ey⟩ := o7.2 k (by omega)
          have := (nI_eq (by omega) (by omega)).mp (ey.symm.trans e1)
          omega
      rw [z F (Nat.le_refl _)]
      exact ⟨fun q => absurd q (Nat.lt_irrefl 0), fun q => (by cases q)⟩
    · dsimp only
      rw [if_neg e]; exact o7.1 p (by omega) v hv
  · obtain ⟨y, hy, ey⟩ := o7.2 i hi
    exact ⟨y, by omega, ey⟩
  · obtain ⟨e1, e2⟩ := o8.2.2.2.1 r hr
    exact ⟨by omega, e2⟩
  · obtain ⟨n1, n2, n3, n4, n5, n6, n7, n8, n9⟩ := M1
    refine ⟨⟨z1, fun p hp => ?_, fun p p1 p2 => ?_⟩, fun p hp => ?_, n3.keep (EqM.mz Z' (fun f x => by unfold pFac at x; unfold PmP; omega) (fun c a x => by unfold qFac at x; unfold QmP; omega)), n4.keep (EqM.mz Z' (fun f x => by unfold pTap at x; unfold PmP; omega) (fun c a x => by unfold qTap at x; unfold QmP; omega)), n5.keep (EqM.mz Z' (fun f x => by unfold pAsk at x; unfold PmP; omega) (fun c a x => by unfold qAsk at x; unfold QmP; omega)), n6.keep (EqM.mz Z' (fun f x => by unfold pAg at x; unfold PmP; omega) (fun c a x => by unfold qAg at x; unfold QmP; omega)), n7.keep (EqM.mz Z' (fun f x => by unfold pRec at x; unfold PmP; omega) (fun c a x => by unfold qRec at x; unfold QmP; omega)), n8.keep (EqM.mz Z' (fun f x => by unfold pMov at x; unfold PmP; omega) (fun c a x => by unfold qMov at x; unfold QmP; omega)), (Z'.2.2.2.2.1 26 0 (by unfold PmP; omega)).trans n9⟩
    · have b0 : ∀ j, gA σ2 21 0 j = gA σ1 21 0 j := fun j => Z'.2.2.2.2.2 21 0 j (by decide) (by unfold QmP; omega)
      have b5 : ∀ j, gA σ2 26 5 j = gA σ1 26 5 j := fun j => Z'.2.2.2.2.2 26 5 j (by decide) (by unfold QmP; omega)
      have b6 : ∀ j, gA σ2 26 6 j = gA σ1 26 6 j := fun j => Z'.2.2.2.2.2 26 6 j (by decide) (by unfold QmP; omega)
      dsimp only
      by_cases e : p = N
      · subst e
        obtain ⟨u1, u2, u3⟩ := n1.2.2 p (Nat.le_refl _) (by omega)
        obtain ⟨r0, r1, r2, r3, r4, r5, r6, -⟩ := pn
        refine ⟨fun f f1 f2 => ?_, ?_, ?_, ?_⟩
        · rw [if_pos rfl]
          match f, f1, f2 with
          | 1, _, _ => exact v0.trans r1.symm
          | 2, _, _ => exact v1.trans r2.symm
          | 3, _, _ => exact v2.trans r3.symm
          | 4, _, _ => exact v3.trans r4.symm
          | 5, _, _ => exact v4.trans r5.symm
          | 0, h, _ => exact absurd h (by decide)
          | f + 6, _, h => exact absurd h (by omega)
        · rw [if_pos rfl, b0, u1, r6 6 (by decide)]
        · rw [if_pos rfl, b5, u2, r6 7 (by decide)]
        · rw [if_pos rfl, b6, u3, r6 8 (by decide)]
      · obtain ⟨e1, e2, e3, e4⟩ := n1.2.1 p (by omega)
        refine ⟨fun f f1 f2 => ?_, ?_, ?_, ?_⟩
        · rw [if_neg e, g1 _ p e]; exact e1 f f1 f2
        · rw [if_neg e, b0]; exact e2
        · rw [if_neg e, b5]; exact e3
        · rw [if_neg e, b6]; exact e4
    · obtain ⟨u1, u2, u3⟩ := n1.2.2 p (by omega) p2
      exact ⟨(Z'.2.2.2.2.2 21 0 p (by decide) (by unfold QmP; omega)).trans u1, (Z'.2.2.2.2.2 26 5 p (by decide) (by unfold QmP; omega)).trans u2, (Z'.2.2.2.2.2 26 6 p (by decide) (by unfold QmP; omega)).trans u3⟩
    · dsimp only
      by_cases e : p = N
      · subst e; rw [if_pos rfl]; exact v7
      · rw [if_neg e, g1 7 p e]; exact n2 p (by omega)
end OPS3
