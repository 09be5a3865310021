/-! Calls: lay, no. -/
section OPS8
variable {G : GG} {l : Launch} {d D : Nat} {σ : AS} {Q : Option AVal → AS → Prop} {P : Option AVal → Option AVal → AS → Prop}
/-- what laying and mending change of the class's, p's being away (if any) apart -/
def NoF (ch : Nat → Nat → Prop) (σ σ' : AS) : Prop := sameK (fun c => c ≠ 2 ∧ c ≠ 6 ∧ c ≠ 7 ∧ c ≠ 8 ∧ c ≠ 20) σ σ' ∧ (∀ c, cnt σ' c = cnt σ c) ∧ (∀ c i, gN σ' c i = gN σ c i) ∧ (∀ f i, f ≠ 6 → f ≠ 8 → gI σ' 2 f i = gI σ 2 f i) ∧ (∀ f i, gR σ' 2 f i = gR σ 2 f i) ∧ (∀ f i, f ≠ 10 → ¬ ch f i → gI σ' 6 f i = gI σ 6 f i) ∧ (∀ f i, gR σ' 7 f i = gR σ 7 f i) ∧ (∀ f i, gR σ' 8 f i = gR σ 8 f i) ∧ (∀ r, r ≠ 4 → gI σ' 8 1 r = gI σ 8 1 r) ∧ (∀ a j, a ≠ 4 → gA σ' 20 a j = gA σ 20 a j) ∧ ∀ f i, gR σ' 20 f i = gR σ 20 f i
theorem MF.no {σ' : AS} (h : MF σ σ') : NoF (fun _ _ => False) σ σ' := ⟨h.1, h.2.1, h.2.2.1, h.2.2.2.1, h.2.2.2.2.1, fun f i hf _ => h.2.2.2.2.2.1 f i hf, h.2.2.2.2.2.2.2.1, h.2.2.2.2.2.2.2.2.1, h.2.2.2.2.2.2.2.2.2.1, h.2.2.2.2.2.2.2.2.2.2.1, h.2.2.2.2.2.2.2.2.2.2.2⟩
theorem NoF.st {ch : Nat → Nat → Prop} {σ' : AS} (h : NoF ch σ σ') (hS : St σ) : St σ' := hS.of fun c hc => by
  by_cases h8 : c = 8
  · subst h8; exact ⟨fun f i _ => h.2.2.2.2.2.2.2.1 f i, fun i _ => h.2.2.1 8 i, Nat.le_of_eq (h.2.1 8).symm⟩
  · by_cases h7 : c = 7
    · subst h7; exact ⟨fun f i _ => h.2.2.2.2.2.2.1 f i, fun i _ => h.2.2.1 7 i, Nat.le_of_eq (h.2.1 7).symm⟩
    · by_cases h20 : c = 20
      · subst h20; exact ⟨fun f i _ => h.2.2.2.2.2.2.2.2.2.2 f i, fun i _ => h.2.2.1 20 i, Nat.le_of_eq (h.2.1 20).symm⟩
      · have k := h.1 c (by unfold stKind at hc; omega)
        exact ⟨fun f i _ => k.2.2.1 f i, fun i _ => k.2.2.2.1 i, Nat.le_of_eq k.1.symm⟩
section
variable {N K q a0 n an A R F T mvn lkn : Nat} {asg : Nat → Option Nat} {b ab fP fS mv lk : Nat → Int32} {per : Nat → Nat → Int32} {ax tq tc : Nat → Nat} {tt : Nat → Nat → Nat} {tf : Nat → Nat → Nat → Int32} {w : Nat → Nat} {rf : Nat → Nat → Int32} {rg : Nat → Option Nat} {Rs : Nat → Nat} {pl : Int32}
theorem CI.no {ch : Nat → Nat → Prop} {asg' : Nat → Option Nat} {mvn' : Nat} {mv' : Nat → Int32} {per' : Nat → Nat → Int32} {σ' : AS} (hch : ∀ i, ¬ ch 0 i) (h : CI σ D N K q a0 n an A R F T mvn lkn asg b ab fP fS mv lk per ax tq tc tt tf w rf rg pl) (Fr : NoF ch σ σ') (hA : Seat N K a0 σ' asg') (hR : RW σ' 4 mvn' mv') (hp : PerC σ' N per') : CI σ' D N K q a0 n an A R F T mvn' lkn asg' b ab fP fS mv' lk per' ax tq tc tt tf w rf rg pl := by
  obtain ⟨c1, c2, c3, ⟨c4, c5, c6⟩, c7, c8, c9, c10, c11⟩ := h
  have hS := c1.1
  have k := Fr.1
  have k0 : sameK (fun c => c = 0 ∨ c = 23) σ σ' := k.sub (fun c hc => by rcases hc with rfl | rfl <;> decide)
  have row : ∀ {r m : Nat} {y : Nat → Int32}, r < 6 → r ≠ 4 → RW σ r m y → RW σ' r m y := fun {r m y} hr h4 z => by
    obtain ⟨k1, k2, k3⟩ := z.out hS hr
    refine RW.mk (Fr.st hS) hr ((Fr.2.2.2.2.2.2.2.2.1 r h4).trans k1) k2 (fun i hi => ?_)
    rw [Fr.2.2.2.2.2.2.2.2.2.1 _ i (fun e => h4 (rArr_inj hr (by decide) e))]
    exact k3 i hi
  refine ⟨c1.same (Fr.st hS) k0 (Fr.2.1 6) (fun p => Fr.2.2.2.2.2.1 0 p (by decide) (hch p)) (Fr.2.2.2.2.2.2.1 0 0) (Fr.2.1 2) (fun x => Fr.2.2.2.1 0 x (by decide) (by decide)), hA, c3.same k0, ⟨((k 12 (by decide)).2.1 10 0).trans c4, ((k 5 (by decide)).2.1 2 0).trans c5, ((k 10 (by decide)).2.1 1 0).trans c6⟩, ⟨row (by decide) (by decide) c7.1, row (by decide) (by decide) c7.2.1, row (by decide) (by decide) c7.2.2.1, hR, row (by decide) (by decide) c7.2.2.2.2⟩, hp, c9.same (fun f x hf => Fr.2.2.2.1 f x (by omega) (by omega)) (fun f x => Fr.2.2.2.2.1 f x) (k 25 (by decide)), c10.same k0 (k 1 (by decide)) (k 9 (by decide)), c11.same k0 (k 11 (by decide))⟩
end
theorem CanR.keepC {N K : Nat} {can : Nat → Nat → Bool} {σ' : AS} (h : CanR σ N K can) (k : sameK MK σ σ') : CanR σ' N K can := by
  obtain ⟨n, b, F, h⟩ := h
  have g := (k 13 (Or.inl rfl)).2.1
  have a26 := (k 26 (by unfold MK; omega)).2.2.2.2.1
  have a22 := (k 22 (by unfold MK; omega)).2.2.2.2.1
  have a21 := (k 21 (by unfold MK; omega)).2.2.2.2.1
  refine ⟨n, b, F, fun p hp a ha => ?_⟩
  obtain ⟨i, gg, ⟨t1, t2, t3, t4, t5, t6⟩, ⟨u1, u2, u3, u4, u5, u6, u7⟩, h3, h4⟩ := h p hp a ha
  refine ⟨i, gg, ⟨(g 31 0).trans t1, t2, fun i hi => (a22 1 i).trans (t3 i hi), t4, t5, (a26 14 a).trans t6⟩, ⟨(g 12 0).trans u1, u2, (a26 0 p).trans u3, (a26 1 p).trans u4, (a26 2 p).trans u5, (a26 3 p).trans u6, fun v hv => ?_⟩, h3, ?_⟩
  · have e1 : (fun i => gA σ' 26 8 i) = (fun i => gA σ 26 8 i) := funext (a26 8)
    have e2 : (fun i => gA σ' 26 9 i) = (fun i => gA σ 26 9 i) := funext (a26 9)
    rw [e1, e2]; exact u7 v hv
  · rw [← h4]
    unfold canM
    rw [a21 0 p, g 2 0, a26 11 a, a26 6 p]
theorem rowP_can {N K : Nat} {asg : Nat → Option Nat} {can can' : Nat → Nat → Bool} {rl rl' : Nat → Option Nat} {g len : Nat} (h : ∀ y, y < N → ∀ a, a < K → can y a = can' y a) (hA : ∀ y, y < N → ∀ a, asg y = some a → a < K) (hr : ∀ a, a < K → rl a = rl' a) (hg : g < K) : leastP (rowP asg can rl g len) N = leastP (rowP asg can' rl' g len) N := leastP_congr N (fun p hp => by
  unfold rowP leadB
  rw [h p hp g hg]
  cases c : asg p with
  | none => rfl
  | some x => dsimp only; rw [hr x (hA p hp x c)])
theorem dl_congr {N K : Nat} {asg : Nat → Option Nat} {can can' : Nat → Nat → Bool} (h : ∀ y, y < N → ∀ a, a < K → can y a = can' y a) (hA : ∀ y, y < N → ∀ a, asg y = some a → a < K) : ∀ L a, a < K → dl N asg can L a = dl N asg can' L a
  | 0, _, _ => rfl
  | L + 1, a, ha => by
    rw [dl_succ, dl_succ, dl_congr h hA L a ha, rowP_can h hA (fun x hx => dl_congr h hA L x hx) ha]
theorem rowF_congr {N K : Nat} {asg : Nat → Option Nat} {can can' : Nat → Nat → Bool} {rl rl' : Nat → Option Nat} (h : ∀ y, y < N → ∀ a, a < K → can y a = can' y a) (hA : ∀ y, y < N → ∀ a, asg y = some a → a < K) (hr : ∀ a, a < K → rl a = rl' a) : ∀ n g, g < K → rowF N asg can rl n g = rowF N asg can' rl' n g
  | 0, _, _ => rfl
  | n + 1, g, hg => by
    rw [rowF, rowF, rowP_can h hA hr hg]
    cases c : leastP (rowP asg can' rl' g (n + 1)) N with
    | none => rfl
    | some p =>
      dsimp only
      cases c2 : asg p with
      | none => rfl
      | some x =>
        dsimp only
        rw [rowF_congr h hA hr n x (hA p (leastP_out N c).1 x c2)]
theorem mendRow_congr {N K : Nat} {asg : Nat → Option Nat} {can can' : Nat → Nat → Bool} {g : Nat} (h : ∀ y, y < N → ∀ a, a < K → can y a = can' y a) (hg : g < K) (hA : ∀ y, y < N → ∀ a, asg y = some a → a < K) : mendRow N K asg can g = mendRow N K asg can' g := by
  unfold mendRow
  rw [dl_congr h hA K g hg]
  cases dl N asg can' K g with
  | none => rfl
  | some n => exact rowF_congr h hA (fun a ha => dl_congr h hA K a ha) n g hg
theorem op_lay (hI : Inv D σ) (h1 : ∀ (x0 : Int32) (σ1 : AS), XK σ σ1 → AMet G l M_X12_lay (d + 36) 0 0 [xR (some (13, 0))] σ1 (P (some (xI x0))) → Q (some (xI x0)) σ1) (h2 : ∀ x σ2, Inv D σ2 → XK σ σ2 → P (some (xI x)) (some (xI x)) σ2) : AMet G l M_X11_lay (d + 36) 0 0 [xR (some (12, 0))] σ Q := by
  obtain ⟨N, K, q, a0, n, an, A, R, F, T, mvn, lkn, asg, b, ab, fP, fS, mv, lk, per, ax, tq, tc, tt, tf, w, rf, rg, Rs, pl, hC, hO, hM⟩ := id hI
  obtain ⟨o1, o2, o3, o4, o5, o6, o7, o8, o9⟩ := id hO
  obtain ⟨c1, c2, c3, c4, c5, c6, c7, c8, c9⟩ := id hC
  obtain ⟨m1, m2, m3, m4, m5, m6, m7, m8, m9⟩ := id hM
  have hS := c1.1
  have hw : ∀ a, a < K → (h3 an ab (ip an ab a)).2 = nI (h3 an ab (ip an ab a)).2.toNatClampNeg ∧ (h3 an ab (ip an ab a)).2.toNatClampNeg ≤ 8 := fun a ha => by
    obtain ⟨q1, q2, -, -⟩ := o4.2.2 a ha
    obtain ⟨-, -, -, -, k, hk, e⟩ := hd_facts q1 q2
    rw [e, nI_clamp (by omega)]; exact ⟨rfl, hk⟩
  have ht : ∀ p, p < N → per p 7 = nI (per p 7).toNatClampNeg ∧ (per p 7).toNatClampNeg ≤ 60 := fun p hp => by
    obtain ⟨-, -, ⟨t, h1, e⟩, -⟩ := o6 p hp
    rw [e, nI_clamp (by omega)]; exact ⟨rfl, by omega⟩
  have cr : CanR σ N K (canC σ a0 (stp an ab) (nI D)) := ⟨an, ab, F, fun p hp a ha => by
    obtain ⟨t1, t2, t3, t4⟩ := cpl hC hO hM hp ha
    exact ⟨_, _, t1, t2, t3, t4⟩⟩
  refine c_lay (d := d + 15) (s := stp an ab) (w := fun a => (h3 an ab (ip an ab a)).2.toNatClampNeg) (turn := fun p => (per p 7).toNatClampNeg) c1 c2 c4.1 (fun a ha => (c7 a ha).2.2.2.2.2) (fun a ha => ⟨(c7 a ha).2.2.2.1.trans (hw a ha).1, by have := (hw a ha).2; omega⟩) (fun p hp => ⟨(c6 p hp 7 (by decide)).trans (ht p hp).1, (ht p hp).2⟩) (fun hK => h1 _ σ XK.rf (m_lay (d := d + 1) (w := fun _ => 0) (turn := fun p => (per p 7).toNatClampNeg) (fin := fun _ => none) hS o2 o4.1 m1.1 m5.1 cr (fun a ha => absurd ha (by omega)) (fun p hp => ⟨((m1.2.1 p hp).2.2.1).trans (ht p hp).1, (ht p hp).2⟩) (fun _ => h2 _ _ hI.t0 XK.t0) (fun z => absurd hK z))) (fun hK σ1 asg' pf A1 fin fw => ?_)
  have Fr := pf.mf.no
  have kM : sameK MK σ σ1 := Fr.1.sub (fun c hc => by unfold MK at hc; omega)
  have xk : XK σ σ1 := XK.of Fr.1 (by decide) (by decide)
  have C1 : CI σ1 D N K q a0 n an A R F T mvn lkn asg' b ab fP fS mv lk per ax tq tc tt tf w rf rg pl := hC.no (fun _ z => z) Fr A1 ((c5.2.2.2.1).same (P := fun c => c = 8 ∨ c = 20) (pf.1.sub (fun c hc => by rcases hc with rfl | rfl <;> decide)) (Or.inl rfl) (Or.inr rfl)) (fun p hp f hf => (pf.2.2.2.2.2.1 f p hf).trans (c6 p hp f hf))
  have S1 := C1.1.1
  have M1 := hM.keepC kM
  obtain ⟨n1, n2, n3, n4, n5, n6, n7, n8, n9⟩ := id M1
  refine h1 _ σ1 xk (m_lay (d := d + 1) (w := fun a => (h3 an ab (ip an ab a)).2.toNatClampNeg) (turn := fun p => (per p 7).toNatClampNeg) (fin := asg') S1 o2 o4.1 n1.1 n5.1 (cr.keepC kM) (fun a ha => ⟨(n5.2.2 a ha).2.2.2.1.trans (hw a ha).1, (hw a ha).2⟩) (fun p hp => ⟨((n1.2.1 p hp).2.2.1).trans (ht p hp).1, (ht p hp).2⟩) (fun z => absurd z hK) (fun _ => ⟨fin, fw, fun σ2 Z z0 z7 => ?_⟩))
  refine h2 _ _ ⟨N, K, q, a0, n, an, A, R, F, T, mvn, lkn, asg', b, ab, fP, fS, mv, lk, per, ax, tq, tc, tt, tf, w, rf, rg, Rs, pl, C1.keep Z.1 (Z.st S1), hO, ?_⟩ (xk.tr (XK.mz Z))
  exact ⟨n1.keep (EqM.mz Z (fun f x => by unfold pPer at x; unfold PL; omega) (fun c a x => by unfold qPer at x; unfold QL; omega)), z7, n3.keep (EqM.mz Z (fun f x => by unfold pFac at x; unfold PL; omega) (fun c a x => by unfold qFac at x; unfold QL; omega)), n4.keep (EqM.mz Z (fun f x => by unfold pTap at x; unfold PL; omega) (fun c a x => by unfold qTap at x; unfold QL; omega)), n5.keep (EqM.mz Z (fun f x => by unfold pAsk at x; unfold PL; omega) (fun c a x => by unfold qAsk at x; unfold QL; omega)), n6.keep (EqM.mz Z (fun f x => by unfold pAg at x; unfold PL; omega) (fun c a x => by unfold qAg at x; unfold QL; omega)), n7.keep (EqM.mz Z (fun f x => by unfold pRec at x; unfold PL; omega) (fun c a x => by unfold qRec at x; unfold QL; omega)), n8.keep (EqM.mz Z (fun f x => by unfold pMov at x; unfold PL; omega) (fun c a x => by unfold qMov at x; unfold QL; omega)), (Z.2.2.2.2.1 26 0 (by unfold PL; omega)).trans n9⟩
def miA (an : Nat) (ab : Nat → Int32) (a : Nat) : Int32 := (h1 an ab (ip an ab a)).2
theorem op_no {x : Int32} (hI : Inv D σ) (h1 : ∀ (x0 : Int32) (σ1 : AS), XK σ σ1 → AMet G l M_X12_no (d + 36) 0 0 [xR (some (13, 0)), xI x] σ1 (P (some (xI x0))) → Q (some (xI x0)) σ1) (h2 : ∀ x σ2, Inv D σ2 → XK σ σ2 → P (some (xI x)) (some (xI x)) σ2) : AMet G l M_X11_no (d + 36) 0 0 [xR (some (12, 0)), xI x] σ Q := by
  obtain ⟨N, K, q, a0, n, an, A, R, F, T, mvn, lkn, asg, b, ab, fP, fS, mv, lk, per, ax, tq, tc, tt, tf, w, rf, rg, Rs, pl, hC, hO, hM⟩ := id hI
  obtain ⟨o1, o2, o3, o4, o5, o6, o7, o8, o9⟩ := id hO
  obtain ⟨c1, c2, c3, c4, c5, c6, c7, c8, c9⟩ := id hC
  have hS := c1.1
  -- what canBe says behind a no of p, when the class says it so too
  have cr : ∀ {σ1 : AS} {can : Nat → Nat → Bool} {p : Nat}, sameK MK σ σ1 → (∀ y, y < N → ∀ a, a < K → can y a = opn (fun f => if f = 6 ∧ y = p then 1 else per y f) (stp an ab a) (miA an ab a) (nI D)) → CanR (noS σ1 p) N K can := by
    intro σ1 can p kM hcan
    have M1 := hM.keepC kM
    have Z0 : MZ True PN QO2 σ1 (noS σ1 p) := MZ.set (MZ.setA (MZ.setA (T0_z (Or.inl rfl)) (Or.inr (Or.inr rfl)) (Or.inl ⟨rfl, Or.inr (Or.inr rfl)⟩)) (Or.inl rfl) (Or.inr ⟨rfl, rfl⟩)) (Or.inr (Or.inr rfl))
    refine ⟨an, ab, F, fun y hy a ha => ?_⟩
    obtain ⟨t1, t2, t3, t4⟩ := cpl hC hO hM hy ha
    obtain ⟨q1, q2, q3, q4⟩ := o4.2.2 a ha
    obtain ⟨n1, n2, n3, n4, n5, n6, n7, n8, n9⟩ := M1
    obtain ⟨e1, e2, e3, e4⟩ := n1.2.1 y hy
    refine ⟨_, fun f => if f = 6 ∧ y = p then 1 else per y f, TxtA.keep ⟨(n5.2.1 (by omega)).1, o4.2.1.1, (n5.2.1 (by omega)).2, o4.2.1.2, q3, (n5.2.2 a ha).2.2.2.2⟩ Z0 (by unfold PN; omega) (by unfold QO2; omega) (by unfold QO2; omega), PerM.keep ⟨n3.1, hO.facts.2, ?_, ?_, ?_, ?_, fun v hv => ?_⟩ Z0 (by unfold PN; omega) (fun a ha => by unfold QO2; omega), t3, ?_⟩
    · dsimp only; rw [if_neg (by omega)]; exact e1 1 (by decide) (by decide)
    · dsimp only; rw [if_neg (by omega)]; exact e1 2 (by decide) (by decide)
    · dsimp only; rw [if_neg (by omega)]; exact e1 3 (by decide) (by decide)
    · dsimp only; rw [if_neg (by omega)]; exact e1 4 (by decide) (by decide)
    · dsimp only
      rw [if_neg (by omega), timN_congr (P' := fP) (S' := fS) F (fun i hi => n3.2.2 i hi)]
      exact o7.1 y hy v hv
    · rw [hcan y hy a ha]
      have b0 : gA (noS σ1 p) 21 0 y = if 6 = 6 ∧ y = p then 1 else per y 6 := by
        show gA (sA (sA (T0 σ1) 26 7 p (-1)) 21 0 p 1) 21 0 y = _
        by_cases c : y = p
        · subst c; rw [gA_self, if_pos ⟨rfl, rfl⟩]
        · rw [gA_o (fun z => c z.2.2), gA_o (by omega), if_neg (fun z => c z.2)]; exact e2
      have b2 : gI (noS σ1 p) 13 2 0 = nI D := (Z0.2.2.2.2.1 2 0 (by unfold PN; omega)).trans n7.2.1
      have b11 : gA (noS σ1 p) 26 11 a = (miA an ab a) := (Z0.2.2.2.2.2 26 11 a (by decide) (by unfold QO2; omega)).trans (n5.2.2 a ha).2.1
      have b6 : gA (noS σ1 p) 26 6 y = per y 8 := (Z0.2.2.2.2.2 26 6 y (by decide) (by unfold QO2; omega)).trans e4
      have v8 : (if 8 = 6 ∧ y = p then (1 : Int32) else per y 8) = per y 8 := if_neg (by omega)
      unfold canM opn stp
      rw [b0, b2, b11, b6]
      dsimp only
      simp only [v8]
  refine c_no (d := d + 29) (s := stp an ab) c1 c2 c4.1 (fun a ha => (c7 a ha).2.2.2.2.2) (fun no => h1 _ σ XK.rf (m_no (d := d + 1) (can := fun p y a => opn (fun f => if f = 6 ∧ y = p then 1 else per y f) (stp an ab a) (miA an ab a) (nI D)) hS (Inv.calM hM.1 hM.2.1 o2 o4.1 c2.2.1) hM.2.2.2.2.1.1 (fun p _ => cr sameK.rf (fun _ _ _ _ => rfl)) (fun _ => h2 _ _ hI.t0 XK.t0) (fun p g _ _ hp e eg => by rw [no p hp e] at eg; cases eg))) (fun p g σ1 σ' hp e eg sf mf A1 rw1 => ?_)
  -- the class's frames joined
  have Fr : NoF (fun f i => f = 6 ∧ i = p) σ σ' := by
    have f1 := sf.pf.mf.no
    have f3 := mf.no
    refine ⟨fun c hc => (f1.1 c hc).tr ((eqK_sI (by omega)).tr (f3.1 c hc)), fun c => (f3.2.1 c).trans (f1.2.1 c), fun c i => (f3.2.2.1 c i).trans (f1.2.2.1 c i), fun f i y1 y2 => (f3.2.2.2.1 f i y1 y2).trans ((gI_o (by omega)).trans (f1.2.2.2.1 f i y1 y2)), fun f i => (f3.2.2.2.2.1 f i).trans (f1.2.2.2.2.1 f i), fun f i y1 y2 => (f3.2.2.2.2.2.1 f i y1 (fun z => z)).trans ((gI_o (fun z => y2 ⟨z.2.1, z.2.2⟩)).trans (f1.2.2.2.2.2.1 f i y1 (fun z => z))), fun f i => (f3.2.2.2.2.2.2.1 f i).trans (f1.2.2.2.2.2.2.1 f i), fun f i => (f3.2.2.2.2.2.2.2.1 f i).trans (f1.2.2.2.2.2.2.2.1 f i), fun r hr => (f3.2.2.2.2.2.2.2.2.1 r hr).trans ((gI_o (by omega)).trans (f1.2.2.2.2.2.2.2.2.1 r hr)), fun a j hj => (f3.2.2.2.2.2.2.2.2.2.1 a j hj).trans (f1.2.2.2.2.2.2.2.2.2.1 a j hj), fun f i => (f3.2.2.2.2.2.2.2.2.2.2 f i).trans (f1.2.2.2.2.2.2.2.2.2.2 f i)⟩
  have kM : sameK MK σ σ' := Fr.1.sub (fun c hc => by unfold MK at hc; omega)
  have xk : XK σ σ' := XK.of Fr.1 (by decide) (by decide)
  have g66 : gI σ' 6 6 p = 1 := (mf.2.2.2.2.2.1 6 p (by decide)).trans gI_self
  have PC : PerC σ' N (updP per p 6 1) := fun y hy f hf => by
    by_cases c : y = p ∧ f = 6
    · obtain ⟨rfl, rfl⟩ := c; rw [updP_s]; exact g66
    · rw [updP_o c]; exact (Fr.2.2.2.2.2.1 f y hf (fun z => c ⟨z.2, z.1⟩)).trans (c6 y hy f hf)
  generalize hcan : canC (sI σ1 6 6 p 1) a0 (stp an ab) (nI D) = can at A1 rw1
  have hcan' : ∀ y, y < N → ∀ a, a < K → can y a = opn (fun f => if f = 6 ∧ y = p then 1 else per y f) (stp an ab a) (miA an ab a) (nI D) := fun y hy a ha => by
    rw [← hcan]
    unfold canC
    rw [gI_o (by omega), sf.2.2.2.1 2 _ (by decide), (c7 a ha).2.1]
    refine opn_congr (fun f hf => ?_) _ _ _
    show gI (sI σ1 6 6 p 1) 6 f y = _
    rw [gI_sI]
    by_cases c : f = 6 ∧ y = p
    · rw [if_pos ⟨rfl, c⟩, if_pos c]
    · rw [if_neg (fun z => c z.2), if_neg c, sf.2.2.2.2.2.1 f y]
      exact c6 y hy f hf
  have C1 := hC.no (fun i z => by omega) Fr A1 rw1 PC
  have S1 := C1.1.1
  have M1 := hM.keepC kM
  obtain ⟨n1, n2, n3, n4, n5, n6, n7, n8, n9⟩ := id M1
  refine h1 _ σ' xk (m_no (d := d + 1) (asg := asg) (can := fun p y a => opn (fun f => if f = 6 ∧ y = p then 1 else per y f) (stp an ab a) (miA an ab a) (nI D)) S1 (Inv.calM n1 n2 o2 o4.1 c2.2.1) n5.1 (fun p _ => cr kM (fun _ _ _ _ => rfl)) (fun no => ?_) (fun p' g' σ2 row hp' e' eg' er Z z0 z7 zk z21 z21o z48 l6 zm => ?_))
  · have := no p hp e; rw [eg] at this; cases this
  · have ep := (nI_eq (by omega) (by omega)).mp (e.symm.trans e')
    subst ep
    rw [eg] at eg'; cases eg'
    have em : mendRow N K (updO asg p none) can g = row := by
      rw [er]
      refine mendRow_congr (fun y hy a ha => ?_) (c2.2.1 p hp g eg) (fun y hy a ha => ?_)
      · exact hcan' y hy a ha
      · unfold updO at ha
        by_cases c : y = p
        · rw [if_pos c] at ha; cases ha
        · rw [if_neg c] at ha; exact c2.2.1 y hy a ha
    rw [em] at C1
    rw [em]
    refine h2 _ _ ⟨N, K, q, a0, n, an, A, R, F, T, row.length, lkn, _, b, ab, fP, fS, _, lk, updP per p 6 1, ax, tq, tc, tt, tf, w, rf, rg, Rs, pl, C1.keep Z.1 (Z.st S1), ⟨o1, o2, o3, o4, o5, fun y hy => ?_, ⟨fun y hy v hv => ?_, o7.2⟩, o8, ⟨o9.1, o9.2.1, by omega, o9.2.2.2⟩⟩, ?_⟩ (xk.tr (XK.mz Z))
    · obtain ⟨e0, e1, e2, e3⟩ := o6 y hy
      refine ⟨(updP_o (by omega)).trans e0, by rw [updP_o (by omega)]; exact e1, by rw [updP_o (by omega)]; exact e2, ?_⟩
      unfold updP
      by_cases c : y = p ∧ 6 = 6
      · rw [if_pos c]; exact Or.inr rfl
      · rw [if_neg c]; exact e3
    · rw [updP_o (by omega)]; exact o7.1 y hy v hv
    · refine ⟨⟨(Z.2.2.2.2.1 1 0 (by unfold PN; omega)).trans n1.1, fun y hy => ?_, fun y y1 y2 => ?_⟩, z7, n3.keep (EqM.mz Z (fun f x => by unfold pFac at x; unfold PN; omega) (fun c a x => by unfold qFac at x; unfold QO2; omega)), n4.keep (EqM.mz Z (fun f x => by unfold pTap at x; unfold PN; omega) (fun c a x => by unfold qTap at x; unfold QO2; omega)), n5.keep (EqM.mz Z (fun f x => by unfold pAsk at x; unfold PN; omega) (fun c a x => by unfold qAsk at x; unfold QO2; omega)), n6.keep (EqM.mz Z (fun f x => by unfold pAg at x; unfold PN; omega) (fun c a x => by unfold qAg at x; unfold QO2; omega)), n7.keep (EqM.mz Z (fun f x => by unfold pRec at x; unfold PN; omega) (fun c a x => by unfold qRec at x; unfold QO2; omega)), ⟨⟨z48, zm⟩, (Z.2.2.2.2.1 67 0 (by unfold PN; omega)).trans n8.2.1, fun i hi => (Z.2.2.2.2.2 26 36 i (by decide) (by unfold QO2; omega)).trans (n8.2.2 i hi)⟩, (Z.2.2.2.2.1 26 0 (by unfold PN; omega)).trans n9⟩
      · obtain ⟨e1, e2, e3, e4⟩ := n1.2.1 y hy
        have r : ∀ x j, x ≤ 6 → gA σ2 26 x j = gA σ' 26 x j := fun x j hx => Z.2.2.2.2.2 26 x j (by decide) (by unfold QO2; omega)
        refine ⟨fun f f1 f2 => ?_, ?_, ?_, ?_⟩
        · rw [updP_o (by omega), r _ y (by omega)]; exact e1 f f1 f2
        · unfold updP
          by_cases c : y = p ∧ 6 = 6
          · rw [if_pos c, c.1]; exact z21
          · rw [if_neg c, z21o y (fun z => c ⟨z, rfl⟩)]; exact e2
        · rw [updP_o (by omega), r 5 y (by decide)]; exact e3
        · rw [updP_o (by omega), r 6 y (by decide)]; exact e4
      · obtain ⟨e1, e2, e3⟩ := n1.2.2 y y1 y2
        exact ⟨(z21o y (by omega)).trans e1, (Z.2.2.2.2.2 26 5 y (by decide) (by unfold QO2; omega)).trans e2, (Z.2.2.2.2.2 26 6 y (by decide) (by unfold QO2; omega)).trans e3⟩
end OPS8
