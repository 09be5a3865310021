/-! Calls that change rows and people: away, end, feed, retake, person, tell. -/
section OPS2
variable {G : GG} {l : Launch} {d D : Nat} {σ : AS} {Q : Option AVal → AS → Prop} {P : Option AVal → Option AVal → AS → Prop}
theorem TP.row {r r' n : Nat} {b : Nat → Int32} {σ' : AS} (h : TP r (rArr r) σ σ') (hS : St σ) (hr : r < 6) (hr' : r' < 6) (hne : r' ≠ r) (k : RW σ r' n b) : RW σ' r' n b := by
  obtain ⟨k1, k2, k3⟩ := k.out hS hr'
  exact RW.mk (h.st hS) hr' ((h.2.2.2.2.1 r' hne).trans k1) k2 (fun i hi => (h.2.2.2.2.2 _ i (fun e => hne (rArr_inj hr' hr e))).trans (k3 i hi))
section
variable {N K q a0 n an A R F T mvn lkn : Nat} {asg : Nat → Option Nat} {b ab fP fS mv lk : Nat → Int32} {per : Nat → Nat → Int32} {ax tq tc : Nat → Nat} {tt : Nat → Nat → Nat} {tf : Nat → Nat → Nat → Int32} {w : Nat → Nat} {rf : Nat → Nat → Int32} {rg : Nat → Option Nat} {Rs : Nat → Nat} {pl : Int32}
/-- only the rows changed -/
theorem CI.rows {n' F' mvn' lkn' : Nat} {b' fP' fS' mv' lk' : Nat → Int32} {σ' : AS} (h : CI σ D N K q a0 n an A R F T mvn lkn asg b ab fP fS mv lk per ax tq tc tt tf w rf rg pl) (k : sameK (fun c => c ≠ 8 ∧ c ≠ 20) σ σ') (hS : St σ') (hr : RowC σ' n' F' mvn' lkn' b' fP' fS' mv' lk') : CI σ' D N K q a0 n' an A R F' T mvn' lkn' asg b' ab fP' fS' mv' lk' per ax tq tc tt tf w rf rg pl := by
  obtain ⟨c1, c2, c3, ⟨c4, c5, c6⟩, c7, c8, c9, c10, c11⟩ := h
  have k0 : sameK (fun c => c = 0 ∨ c = 23) σ σ' := k.sub (fun c hc => by rcases hc with rfl | rfl <;> decide)
  have e6 := k 6 (by decide)
  have e2 := k 2 (by decide)
  exact ⟨c1.same hS k0 e6.1 (fun p => e6.2.1 0 p) ((k 7 (by decide)).2.2.1 0 0) e2.1 (fun x => e2.2.1 0 x), c2.same (fun p _ => e6.2.2.1 11 p) (fun x => e2.2.1 6 x), c3.same k0, ⟨((k 12 (by decide)).2.1 10 0).trans c4, ((k 5 (by decide)).2.1 2 0).trans c5, ((k 10 (by decide)).2.1 1 0).trans c6⟩, hr, fun p hp f hf => (e6.2.1 f p).trans (c8 p hp f hf), c9.same (fun f x _ => e2.2.1 f x) (fun f x => e2.2.2.1 f x) (k 25 (by decide)), c10.same k0 (k 1 (by decide)) (k 9 (by decide)), c11.same k0 (k 11 (by decide))⟩
end
def updP (per : Nat → Nat → Int32) (p f : Nat) (v : Int32) : Nat → Nat → Int32 := fun y g => if y = p ∧ g = f then v else per y g
theorem updP_s {per : Nat → Nat → Int32} {p f : Nat} {v : Int32} : updP per p f v p f = v := if_pos ⟨rfl, rfl⟩
theorem updP_o {per : Nat → Nat → Int32} {p f y g : Nat} {v : Int32} (h : ¬ (y = p ∧ g = f)) : updP per p f v y g = per y g := if_neg h
def PmA : Nat → Prop := fun f => f = 0
def QmA : Nat → Nat → Prop := fun c a => c = 21 ∧ a = 0
theorem op_away {x is : Int32} (his : is = 0 ∨ is = 1) (hI : Inv D σ) (h1 : ∀ (x0 : Int32) (σ1 : AS), XK σ σ1 → AMet G l M_X12_away (d + 36) 0 0 [xR (some (13, 0)), xI x, xI is] σ1 (P (some (xI x0))) → Q (some (xI x0)) σ1) (h2 : ∀ x σ2, Inv D σ2 → XK σ σ2 → P (some (xI x)) (some (xI x)) σ2) : AMet G l M_X11_away (d + 36) 0 0 [xR (some (12, 0)), xI x, xI is] σ Q := by
  obtain ⟨N, K, q, a0, n, an, A, R, F, T, mvn, lkn, asg, b, ab, fP, fS, mv, lk, per, ax, tq, tc, tt, tf, w', rf, rg, Rs, pl, hC, ⟨o1, o2, o3, o4, o5, o6, o7, o8, o9⟩, hM⟩ := id hI
  obtain ⟨c1, c2, c3, c4, c5, c6, c7, c8, c9⟩ := id hC
  obtain ⟨m1, m2, m3, m4, m5, m6, m7, m8, m9⟩ := id hM
  have rn : ∀ p, p < N → (gA σ 26 7 p = -1 ↔ gR σ 6 11 p = none) := fun p hp => by
    rw [m2 p hp, c2.1 p hp, rI_n o4.1 (fun a ha => c2.2.1 p hp a ha)]
    cases asg p <;> simp
  refine c_away (N := N) c1.1 c1.2.1 (fun p hp n e => ?_) his (fun no => h1 _ σ XK.rf (m_away c1.1 o2 m1.1 his (fun _ => h2 _ _ hI.t0 XK.t0) (fun p hp e z => absurd ((rn p hp).mp z) (no p hp e)))) (fun p hp e z => ?_)
  · rw [c2.1 p hp] at e
    cases y : asg p with
    | none => rw [y] at e; cases e
    | some a => rw [y] at e; cases e; exact ⟨_, rfl⟩
  · have k6 : sameK (fun c => c ≠ 6) σ (sI σ 6 6 p is) := fun c hc => eqK_sI hc
    refine h1 _ _ (XK.of k6 (by decide) (by decide)) (m_away (σ := sI σ 6 6 p is) (N := N) c1.1 o2 m1.1 his (fun no => absurd ((rn p hp).mpr z) (no p hp e)) (fun p' hp' e' z' => ?_))
    have ep := (nI_eq (by omega) (by omega)).mp (e.symm.trans e')
    subst ep
    have Z : MZ False PmA QmA (sI σ 6 6 p is) (sA (T0 (sI σ 6 6 p is)) 21 0 p is) := MZ.setA (T0_z rfl) (Or.inl rfl) ⟨rfl, rfl⟩
    refine h2 _ _ ⟨N, K, q, a0, n, an, A, R, F, T, mvn, lkn, asg, b, ab, fP, fS, mv, lk, updP per p 6 is, ax, tq, tc, tt, tf, w', rf, rg, Rs, pl, ?_, ⟨o1, o2, o3, o4, o5, fun y hy => ?_, ⟨fun y hy v hv => ?_, o7.2⟩, o8, o9⟩, ?_⟩ ((XK.of k6 (by decide) (by decide)).tr (XK.mz Z))
    · have C1 : CI (sI σ 6 6 p is) D N K q a0 n an A R F T mvn lkn asg b ab fP fS mv lk (updP per p 6 is) ax tq tc tt tf w' rf rg pl := by
        refine ⟨c1.same c1.1 (k6.sub (fun c hc => by rcases hc with rfl | rfl <;> decide)) rfl (fun y => gI_o (by omega)) rfl rfl (fun y => gI_o (by omega)), c2.same (fun _ _ => rfl) (fun y => gI_o (by omega)), c3.same (k6.sub (fun c hc => by rcases hc with rfl | rfl <;> decide)), ⟨(gI_o (by omega)).trans c4.1, (gI_o (by omega)).trans c4.2.1, (gI_o (by omega)).trans c4.2.2⟩, c5.same (k6.sub (fun c hc => by rcases hc with rfl | rfl <;> decide)), fun y hy f hf => ?_, c7.same (fun f y _ => gI_o (by omega)) (fun _ _ => rfl) (k6 25 (by decide)), c8.same (k6.sub (fun c hc => by rcases hc with rfl | rfl <;> decide)) (k6 1 (by decide)) (k6 9 (by decide)), c9.same (k6.sub (fun c hc => by rcases hc with rfl | rfl <;> decide)) (k6 11 (by decide))⟩
        unfold updP
        rw [gI_sI]
        by_cases c : y = p ∧ f = 6
        · rw [if_pos c, if_pos ⟨rfl, c.2, c.1⟩]
        · rw [if_neg c, if_neg (fun e => c ⟨e.2.2, e.2.1⟩)]; exact c6 y hy f hf
      exact C1.keep Z.1 (Z.st c1.1)
    · obtain ⟨e0, e1, e2, e3⟩ := o6 y hy
      refine ⟨(updP_o (by omega)).trans e0, by rw [updP_o (by omega)]; exact e1, by rw [updP_o (by omega)]; exact e2, ?_⟩
      unfold updP
      by_cases c : y = p ∧ 6 = 6
      · rw [if_pos c]; exact his
      · rw [if_neg c]; exact e3
    · rw [updP_o (by omega)]; exact o7.1 y hy v hv
    · have M1 := hM.keepC (σ' := sI σ 6 6 p is) (k6.sub (fun c hc => by unfold MK at hc; omega))
      obtain ⟨n1, n2, n3, n4, n5, n6, n7, n8, n9⟩ := M1
      refine ⟨⟨(Z.2.2.2.2.1 1 0 (by unfold PmA; omega)).trans n1.1, fun y hy => ?_, fun y y1 y2 => ?_⟩, n2.keep (EqM.mz Z (fun f x => x.elim) (fun c a x => by unfold qCal at x; unfold QmA; omega)), n3.keep (EqM.mz Z (fun f x => by unfold pFac at x; unfold PmA; omega) (fun c a x => by unfold qFac at x; unfold QmA; omega)), n4.keep (EqM.mz Z (fun f x => by unfold pTap at x; unfold PmA; omega) (fun c a x => by unfold qTap at x; unfold QmA; omega)), n5.keep (EqM.mz Z (fun f x => by unfold pAsk at x; unfold PmA; omega) (fun c a x => by unfold qAsk at x; unfold QmA; omega)), n6.keep (EqM.mz Z (fun f x => by unfold pAg at x; unfold PmA; omega) (fun c a x => by unfold qAg at x; unfold QmA; omega)), n7.keep (EqM.mz Z (fun f x => by unfold pRec at x; unfold PmA; omega) (fun c a x => by unfold qRec at x; unfold QmA; omega)), n8.keep (EqM.mz Z (fun f x => by unfold pMov at x; unfold PmA; omega) (fun c a x => by unfold qMov at x; unfold QmA; omega)), (Z.2.2.2.2.1 26 0 (by unfold PmA; omega)).trans n9⟩
      · obtain ⟨e1, e2, e3, e4⟩ := n1.2.1 y hy
        have r : ∀ a j, gA (sA (T0 (sI σ 6 6 p is)) 21 0 p is) 26 a j = gA (sI σ 6 6 p is) 26 a j := fun a j => gA_o (by omega)
        refine ⟨fun f f1 f2 => ?_, ?_, ?_, ?_⟩
        · rw [r, updP_o (by omega)]; exact e1 f f1 f2
        · unfold updP
          by_cases c : y = p ∧ 6 = 6
          · rw [if_pos c, c.1, gA_self]
          · rw [if_neg c, gA_o (fun e => c ⟨e.2.2, rfl⟩)]; exact e2
        · rw [r, updP_o (by omega)]; exact e3
        · rw [r, updP_o (by omega)]; exact e4
      · obtain ⟨e1, e2, e3⟩ := n1.2.2 y y1 y2
        exact ⟨(gA_o (by omega)).trans e1, (gA_o (by omega)).trans e2, (gA_o (by omega)).trans e3⟩
def PmT : Nat → Prop := fun f => f = 0 ∨ f = 17
def QmT : Nat → Nat → Prop := fun c a => c = 22 ∧ a = 0
/-- the model's tape alone is new -/
theorem MI.tape {N K q a0 n an A R F T mvn lkn n' : Nat} {asg : Nat → Option Nat} {b ab fP fS mv lk b' : Nat → Int32} {per : Nat → Nat → Int32} {tc : Nat → Nat} {tf : Nat → Nat → Nat → Int32} {w : Nat → Nat} {rf : Nat → Nat → Int32} {rg : Nat → Option Nat} {Rs : Nat → Nat} {pl : Int32} {σ' : AS} (h : MI σ D N K n an A R F T mvn lkn asg b ab fP fS mv lk per tc tf w rf rg Rs pl) (Z : MZ False PmT QmT σ σ') (t : TapM σ' n' b') : MI σ' D N K n' an A R F T mvn lkn asg b' ab fP fS mv lk per tc tf w rf rg Rs pl := by
  obtain ⟨n1, n2, n3, n4, n5, n6, n7, n8, n9⟩ := h
  exact ⟨n1.keep (EqM.mz Z (fun f x => by unfold pPer at x; unfold PmT; omega) (fun c a x => by unfold qPer at x; unfold QmT; omega)), n2.keep (EqM.mz Z (fun f x => x.elim) (fun c a x => by unfold qCal at x; unfold QmT; omega)), n3.keep (EqM.mz Z (fun f x => by unfold pFac at x; unfold PmT; omega) (fun c a x => by unfold qFac at x; unfold QmT; omega)), t, n5.keep (EqM.mz Z (fun f x => by unfold pAsk at x; unfold PmT; omega) (fun c a x => by unfold qAsk at x; unfold QmT; omega)), n6.keep (EqM.mz Z (fun f x => by unfold pAg at x; unfold PmT; omega) (fun c a x => by unfold qAg at x; unfold QmT; omega)), n7.keep (EqM.mz Z (fun f x => by unfold pRec at x; unfold PmT; omega) (fun c a x => by unfold qRec at x; unfold QmT; omega)), n8.keep (EqM.mz Z (fun f x => by unfold pMov at x; unfold PmT; omega) (fun c a x => by unfold qMov at x; unfold QmT; omega)), (Z.2.2.2.2.1 26 0 (by unfold PmT; omega)).trans n9⟩
theorem TP.xk {r a : Nat} {σ' : AS} (h : TP r a σ σ') : XK σ σ' := XK.of h.1 (by decide) (by decide)
theorem op_end {x : Int32} (hI : Inv D σ) (h1 : ∀ (x0 : Int32) (σ1 : AS), XK σ σ1 → AMet G l M_X12_end (d + 36) 0 0 [xR (some (13, 0)), xI x] σ1 (P (some (xI x0))) → Q (some (xI x0)) σ1) (h2 : ∀ x σ2, Inv D σ2 → XK σ σ2 → P (some (xI x)) (some (xI x)) σ2) : AMet G l M_X11_end (d + 36) 0 0 [xR (some (12, 0)), xI x] σ Q := by
  obtain ⟨N, K, q, a0, n, an, A, R, F, T, mvn, lkn, asg, b, ab, fP, fS, mv, lk, per, ax, tq, tc, tt, tf, w', rf, rg, Rs, pl, hC, ⟨o1, o2, o3, o4, o5, o6, o7, o8, o9⟩, hM⟩ := id hI
  have hn := o3.1
  have hS := hC.1.1
  have r0 := hC.2.2.2.2.1
  refine c_end hS r0.1 (fun no => h1 _ σ XK.rf (m_end hn hM.2.2.2.1.1 (fun _ => h2 _ _ hI.t0 XK.t0) (fun k hk e => absurd e (no k hk)))) (fun k hk e => ?_)
  have tp : TP 0 (rArr 0) σ (sI σ 8 1 0 x) := TP.size
  refine h1 _ _ tp.xk (m_end (σ := sI σ 8 1 0 x) hn hM.2.2.2.1.1 (fun no => absurd e (no k hk)) (fun k' hk' e' => ?_))
  have Z : MZ False PmT QmT (sI σ 8 1 0 x) (sI (T0 (sI σ 8 1 0 x)) 13 17 0 x) := (T0_z (Or.inl rfl)).set (Or.inr rfl)
  have hR : RW (sI σ 8 1 0 x) 0 k b := by
    obtain ⟨k1, k2, k3⟩ := r0.1.out hS (by decide)
    exact RW.mk (tp.st hS) (by decide) (by rw [gI_self, e]) (by omega) (fun i hi => k3 i (by omega))
  have C1 : CI (sI σ 8 1 0 x) D N K q a0 k an A R F T mvn lkn asg b ab fP fS mv lk per ax tq tc tt tf w' rf rg pl := hC.rows tp.1 (tp.st hS) ⟨hR, tp.row hS (by decide) (by decide) (by decide) r0.2.1, tp.row hS (by decide) (by decide) (by decide) r0.2.2.1, tp.row hS (by decide) (by decide) (by decide) r0.2.2.2.1, tp.row hS (by decide) (by decide) (by decide) r0.2.2.2.2⟩
  refine h2 _ _ ⟨N, K, q, a0, k, an, A, R, F, T, mvn, lkn, asg, b, ab, fP, fS, mv, lk, per, ax, tq, tc, tt, tf, w', rf, rg, Rs, pl, C1.keep Z.1 (Z.st C1.1.1), ⟨o1, o2, ⟨by omega, fun i hi => o3.2 i (by omega)⟩, o4, o5, o6, o7, o8, o9⟩, ?_⟩ (tp.xk.tr (XK.mz Z))
  have M1 := hM.keepC (σ' := sI σ 8 1 0 x) (tp.1.sub (fun c hc => by unfold MK at hc; omega))
  exact MI.tape (q := q) (a0 := a0) M1 Z ⟨by rw [gI_self, e], by omega, fun i hi => hM.2.2.2.1.2.2 i (by omega)⟩
theorem byt_lt (x s : Int32) : ∃ m, m < 256 ∧ byt x s = nI m := by
  unfold byt
  generalize (x.toUInt32 >>> (s.toUInt32 &&& Int32.toUInt32 31)).toInt32 = y
  have le : y.toBitVec.toNat &&& 255 ≤ 255 := Nat.and_le_right
  refine ⟨y.toBitVec.toNat &&& 255, by omega, ?_⟩
  apply Int32.toBitVec_inj.mp
  apply BitVec.eq_of_toNat_eq
  rw [Int32.toBitVec_and, BitVec.toNat_and]
  show y.toBitVec.toNat &&& 255 = (BitVec.ofNat 32 (y.toBitVec.toNat &&& 255)).toNat
  rw [BitVec.toNat_ofNat, Nat.mod_eq_of_lt (by omega)]
theorem op_feed {x1 x2 x3 x4 x5 : Int32} (hI : Inv D σ) (h1 : ∀ (x0 : Int32) (σ1 : AS), XK σ σ1 → AMet G l M_X12_feed (d + 36) 0 0 [xR (some (13, 0)), xI x1, xI x2, xI x3, xI x4, xI x5] σ1 (P (some (xI x0))) → Q (some (xI x0)) σ1) (h2 : ∀ x σ2, Inv D σ2 → XK σ σ2 → P (some (xI x)) (some (xI x)) σ2) : AMet G l M_X11_feed (d + 36) 0 0 [xR (some (12, 0)), xI x1, xI x2, xI x3, xI x4, xI x5] σ Q := by
  obtain ⟨N, K, q, a0, n, an, A, R, F, T, mvn, lkn, asg, b, ab, fP, fS, mv, lk, per, ax, tq, tc, tt, tf, w', rf, rg, Rs, pl, hC, ⟨o1, o2, o3, o4, o5, o6, o7, o8, o9⟩, hM⟩ := id hI
  have hS := hC.1.1
  have r0 := hC.2.2.2.2.1
  refine c_feed hS r0.1 (fun no => h1 _ σ XK.rf (m_feed hS hM.2.2.2.1 (fun _ => h2 _ _ hI.t0 XK.t0) (fun y => absurd y no))) (fun y σ1 tp hR => ?_)
  have M1 := hM.keepC (σ' := σ1) (tp.1.sub (fun c hc => by unfold MK at hc; omega))
  refine h1 _ σ1 tp.xk (m_feed (tp.st hS) M1.2.2.2.1 (fun no => absurd y no) (fun _ σ2 Z z0 tm => ?_))
  have Z' : MZ False PmT QmT σ1 σ2 := Z.mono id (fun f x => x) (fun c a x => x)
  have C1 : CI σ1 D N K q a0 (n + 20) an A R F T mvn lkn asg (put20 b n x1 x2 x3 x4 x5) ab fP fS mv lk per ax tq tc tt tf w' rf rg pl := hC.rows tp.1 (tp.st hS) ⟨hR, TP.row (r := 0) tp hS (by decide) (by decide) (by decide) r0.2.1, TP.row (r := 0) tp hS (by decide) (by decide) (by decide) r0.2.2.1, TP.row (r := 0) tp hS (by decide) (by decide) (by decide) r0.2.2.2.1, TP.row (r := 0) tp hS (by decide) (by decide) (by decide) r0.2.2.2.2⟩
  refine h2 _ _ ⟨N, K, q, a0, n + 20, an, A, R, F, T, mvn, lkn, asg, put20 b n x1 x2 x3 x4 x5, ab, fP, fS, mv, lk, per, ax, tq, tc, tt, tf, w', rf, rg, Rs, pl, C1.keep Z.1 (Z.st C1.1.1), ⟨o1, o2, ⟨y, fun i hi => ?_⟩, o4, o5, o6, o7, o8, o9⟩, MI.tape (q := q) (a0 := a0) M1 Z' tm⟩ (tp.xk.tr (XK.mz Z))
  by_cases c : i < n
  · rw [put20_lt c]; exact o3.2 i c
  · obtain ⟨k, rfl⟩ : ∃ k, i = n + k := ⟨i - n, by omega⟩
    rw [put20_at (by omega)]; exact byt_lt _ _
theorem timN_congr {P P' S S' : Nat → Int32} {p v : Int32} : ∀ k, (∀ i, i < k → P i = P' i ∧ S i = S' i) → timN P S p v k = timN P' S' p v k
  | 0, _ => rfl
  | k + 1, h => by rw [timN, timN, timN_congr k (fun i hi => h i (by omega)), (h k (by omega)).1, (h k (by omega)).2]
def PmL : Nat → Prop := fun f => f = 0 ∨ f = 67
def QmL : Nat → Nat → Prop := fun c a => c = 26 ∧ a = 36
theorem op_retake {x y : Int32} (hI : Inv D σ) (h1 : ∀ (x0 : Int32) (σ1 : AS), XK σ σ1 → AMet G l M_X12_retake (d + 36) 0 0 [xR (some (13, 0)), xI x, xI y] σ1 (P (some (xI x0))) → Q (some (xI x0)) σ1) (h2 : ∀ x σ2, Inv D σ2 → XK σ σ2 → P (some (xI x)) (some (xI x)) σ2) : AMet G l M_X11_retake (d + 36) 0 0 [xR (some (12, 0)), xI x, xI y] σ Q := by
  obtain ⟨N, K, q, a0, n, an, A, R, F, T, mvn, lkn, asg, b, ab, fP, fS, mv, lk, per, ax, tq, tc, tt, tf, w', rf, rg, Rs, pl, hC, ⟨o1, o2, o3, o4, o5, o6, o7, o8, o9⟩, hM⟩ := id hI
  have hS := hC.1.1
  have r0 := hC.2.2.2.2.1
  have c6 := hC.2.2.2.2.2.1
  have hF : F ≤ 2600 := by
    have h1 := o8.2.1
    have h2 := o9.2.1
    have h3 : Rs D ≤ 40 * D := by
      rcases Nat.eq_zero_or_pos D with z | z
      · subst z; rw [o8.1]; omega
      · obtain ⟨m, rfl⟩ : ∃ m, D = m + 1 := ⟨D - 1, by omega⟩
        exact (o8.2.2.1 m (by omega)).2
    omega
  have hg : ∀ {σ1 : AS}, (∀ p, p < N → ∀ f, f ≠ 10 → gI σ1 6 f p = per p f) → MI σ1 D N K n an A R F T mvn lkn asg b ab fP fS mv lk per tc tf w' rf rg Rs pl → ∀ p, p < N → (∀ v, v < 20 → ((0 < timN (fun i => gA σ1 26 8 i) (fun i => gA σ1 26 9 i) (nI p) (nI v) F) ↔ jb ((fun p f => gI σ 6 f p) p 9) (nI v) = true)) ∧ (gA σ1 21 0 p = 0 ↔ (fun p f => gI σ 6 f p) p 6 = 0) ∧ gA σ1 26 6 p = (fun p f => gI σ 6 f p) p 8 := by
    intro σ1 _ M p hp
    obtain ⟨e1, e2, e3, e4⟩ := M.1.2.1 p hp
    refine ⟨fun v hv => ?_, by rw [e2, ← c6 p hp 6 (by decide)], e4.trans (c6 p hp 8 (by decide)).symm⟩
    rw [timN_congr (P' := fP) (S' := fS) F (fun i hi => M.2.2.1.2.2 i hi)]
    show _ ↔ jb (gI σ 6 9 p) (nI v) = true
    rw [c6 p hp 9 (by decide)]
    exact o7.1 p hp v hv
  refine c_retake hC.1 hC.2.2.2.1.1 (fun no => h1 _ σ XK.rf (m_retake (D := D) (g := fun p f => gI σ 6 f p) hS o2 hM.1.1 hM.2.2.1.1 hF hM.2.2.2.2.2.2.1.2.1 (hg c6 hM) (fun _ => h2 _ _ hI.t0 XK.t0) (fun y1 y2 => absurd ⟨y1, y2⟩ no))) (fun y1 y2 σ1 tp hR => ?_)
  have M1 := hM.keepC (σ' := σ1) (tp.1.sub (fun c hc => by unfold MK at hc; omega))
  refine h1 _ σ1 tp.xk (m_retake (D := D) (g := fun p f => gI σ 6 f p) (tp.st hS) o2 M1.1.1 M1.2.2.1.1 hF M1.2.2.2.2.2.2.1.2.1 (hg (fun p hp f hf => ((tp.1 6 (by decide)).2.1 f p).trans (c6 p hp f hf)) M1) (fun no => absurd ⟨y1, y2⟩ no) (fun _ _ σ2 Z z0 z67 B => ?_))
  have Z' : MZ False PmL QmL σ1 σ2 := Z.mono id (fun f x => x) (fun c a x => x)
  have ll := lackL_le (F := fun p f => gI σ 6 f p) (sc := x) (lim := 1440 * nI D + y) N
  have C1 : CI σ1 D N K q a0 n an A R F T mvn _ asg b ab fP fS mv _ per ax tq tc tt tf w' rf rg pl := hC.rows tp.1 (tp.st hS) ⟨TP.row (r := 5) tp hS (by decide) (by decide) (by decide) r0.1, TP.row (r := 5) tp hS (by decide) (by decide) (by decide) r0.2.1, TP.row (r := 5) tp hS (by decide) (by decide) (by decide) r0.2.2.1, TP.row (r := 5) tp hS (by decide) (by decide) (by decide) r0.2.2.2.1, hR⟩
  refine h2 _ _ ⟨N, K, q, a0, n, an, A, R, F, T, mvn, _, asg, b, ab, fP, fS, mv, _, per, ax, tq, tc, tt, tf, w', rf, rg, Rs, pl, C1.keep Z.1 (Z.st C1.1.1), ⟨o1, o2, o3, o4, o5, o6, o7, o8, ⟨o9.1, o9.2.1, o9.2.2.1, by omega⟩⟩, ?_⟩ (tp.xk.tr (XK.mz Z))
  obtain ⟨n1, n2, n3, n4, n5, n6, n7, n8, n9⟩ := M1
  exact ⟨n1.keep (EqM.mz Z' (fun f x => by unfold pPer at x; unfold PmL; omega) (fun c a x => by unfold qPer at x; unfold QmL; omega)), n2.keep (EqM.mz Z' (fun f x => x.elim) (fun c a x => by unfold qCal at x; unfold QmL; omega)), n3.keep (EqM.mz Z' (fun f x => by unfold pFac at x; unfold PmL; omega) (fun c a x => by unfold qFac at x; unfold QmL; omega)), n4.keep (EqM.mz Z' (fun f x => by unfold pTap at x; unfold PmL; omega) (fun c a x => by unfold qTap at x; unfold QmL; omega)), n5.keep (EqM.mz Z' (fun f x => by unfold pAsk at x; unfold PmL; omega) (fun c a x => by unfold qAsk at x; unfold QmL; omega)), n6.keep (EqM.mz Z' (fun f x => by unfold pAg at x; unfold PmL; omega) (fun c a x => by unfold qAg at x; unfold QmL; omega)), n7.keep (EqM.mz Z' (fun f x => by unfold pRec at x; unfold PmL; omega) (fun c a x => by unfold qRec at x; unfold QmL; omega)), ⟨⟨(Z'.2.2.2.2.1 48 0 (by unfold PmL; omega)).trans n8.1.1, fun i hi => (Z'.2.2.2.2.2 26 22 i (by decide) (by unfold QmL; omega)).trans (n8.1.2 i hi)⟩, z67, B⟩, (Z'.2.2.2.2.1 26 0 (by unfold PmL; omega)).trans n9⟩
end OPS2
