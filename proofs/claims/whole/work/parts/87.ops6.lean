/-! Calls: asks. -/
section OPS6
variable {G : GG} {l : Launch} {d D : Nat} {σ : AS} {Q : Option AVal → AS → Prop} {P : Option AVal → Option AVal → AS → Prop}
theorem num_bd {v lo hi : Int32} {m : Nat} (hlo : ¬ lo < 0) (hm : hi = nI m) (hm' : m < 2 ^ 31) (h1 : ¬ v < lo) (h2 : ¬ hi < v) : ∃ k, k ≤ m ∧ v = nI k := by
  have h0 : ¬ v < 0 := fun z => by
    rcases Int32.lt_or_le v lo with y | y
    · exact h1 y
    · exact hlo (Int32.lt_of_le_of_lt y z)
  obtain ⟨k, hk, e⟩ := nI_of h0
  have := Int32.not_lt.mp h2
  rw [e, hm] at this
  exact ⟨k, (nI_leI hk hm').mp this, e⟩
/-- what a head that was told well holds -/
theorem hd_facts {n i : Nat} {b : Nat → Int32} (hi : i ≤ n) (z : (hd n b i).1 = 0) : (hd n b i).2 ≤ n ∧ (∃ k, k ≤ 19 ∧ (h0 n b i).2 = nI k) ∧ (∃ k, k ≤ 1439 ∧ (h1 n b i).2 = nI k) ∧ (∃ k, k ≤ 600 ∧ (h2 n b i).2 = nI k) ∧ ∃ k, k ≤ 8 ∧ (h3 n b i).2 = nI k := by
  have c0 : (h0 n b i).1.1 = 0 := by
    by_cases c : (h0 n b i).1.1 = 0
    · exact c
    · unfold hd at z; rw [if_neg c] at z; exact absurd z c
  have c1 : (h1 n b i).1.1 = 0 := by
    by_cases c : (h1 n b i).1.1 = 0
    · exact c
    · unfold hd at z; rw [if_pos c0, if_neg c] at z; exact absurd z c
  have c2 : (h2 n b i).1.1 = 0 := by
    by_cases c : (h2 n b i).1.1 = 0
    · exact c
    · unfold hd at z; rw [if_pos c0, if_pos c1, if_neg c] at z; exact absurd z c
  have c3 : (h3 n b i).1.1 = 0 := by
    by_cases c : (h3 n b i).1.1 = 0
    · exact c
    · unfold hd at z; rw [if_pos c0, if_pos c1, if_pos c2, if_neg c] at z; exact absurd z c
  have lit : ∀ {x : Int32} {m : Nat}, x = nI m → x = nI m := fun e => e
  obtain ⟨-, -, -, l0, -, -, -, v0, a0, b0⟩ := (wN_cases (n := n) (i := i) (w := 0) (b := b) (lo := 0) (hi := 19) hi (by decide)).resolve_right (fun q => absurd c0 q.1)
  obtain ⟨-, -, -, l1, -, -, -, v1, a1, b1⟩ := (wN_cases (n := n) (i := (h0 n b i).1.2) (w := 1) (b := b) (lo := 0) (hi := 1439) l0 (by decide)).resolve_right (fun q => absurd c1 q.1)
  obtain ⟨-, -, -, l2, -, -, -, v2, a2, b2⟩ := (wN_cases (n := n) (i := (h1 n b i).1.2) (w := 2) (b := b) (lo := 1) (hi := 600) l1 (by decide)).resolve_right (fun q => absurd c2 q.1)
  obtain ⟨-, -, -, l3, -, -, -, v3, a3, b3⟩ := (wN_cases (n := n) (i := (h2 n b i).1.2) (w := 3) (b := b) (lo := 1) (hi := 8) l2 (by decide)).resolve_right (fun q => absurd c3 q.1)
  refine ⟨?_, ?_, ?_, ?_, ?_⟩
  · unfold hd
    rw [if_pos c0, if_pos c1, if_pos c2, if_pos c3]
    by_cases c : isG n b (h3 n b i).1.2 58 = true
    · rw [if_pos c]; exact (tE_le l3).2
    · rw [if_neg c]; exact (tS_le l3).2
  · obtain ⟨k, hk, e⟩ := num_bd (m := 19) (by decide) rfl (by decide) a0 b0
    exact ⟨k, hk, v0.trans e⟩
  · obtain ⟨k, hk, e⟩ := num_bd (m := 1439) (by decide) rfl (by decide) a1 b1
    exact ⟨k, hk, v1.trans e⟩
  · obtain ⟨k, hk, e⟩ := num_bd (m := 600) (by decide) rfl (by decide) a2 b2
    exact ⟨k, hk, v2.trans e⟩
  · obtain ⟨k, hk, e⟩ := num_bd (m := 8) (by decide) rfl (by decide) a3 b3
    exact ⟨k, hk, v3.trans e⟩
theorem ra_facts {n i : Nat} {b : Nat → Int32} (hi : i ≤ n) (z : (ra n b i).1 = 0) : (hd n b i).1 = 0 ∧ (rdE n b (hd n b i).2).1.1 = 0 ∧ (ra n b i).2 ≤ n := by
  have c0 : (hd n b i).1 = 0 := by
    by_cases c : (hd n b i).1 = 0
    · exact c
    · unfold ra at z; rw [if_neg c] at z; exact absurd z c
  have c1 : (rdE n b (hd n b i).2).1.1 = 0 := by
    by_cases c : (rdE n b (hd n b i).2).1.1 = 0
    · exact c
    · unfold ra at z; rw [if_pos c0, if_neg c] at z; exact absurd z c
  have l1 := (hd_facts hi c0).1
  have l2 := ((rd_ok n b _).2 0 _ false false l1 c1).2
  refine ⟨c0, c1, ?_⟩
  unfold ra
  rw [if_pos c0, if_pos c1]
  by_cases c : isG n b (rdE n b (hd n b i).2).1.2 59 = true
  · rw [if_pos c]; exact (tE_le l2).2
  · rw [if_neg c]; exact (tS_le l2).2
theorem rall_ok {n : Nat} {b : Nat → Int32} {K : Nat} {o : Out} (ho : o.1 = 0) : ∀ f k, rall n b f k (ip n b k) = (K, o) → k ≤ K ∧ ∀ a, k ≤ a → a < K → (ra n b (ip n b a)).1 = 0
  | 0, k, h => by
    rw [rall] at h
    by_cases c : tK n b (ip n b k) = 0
    · rw [if_pos c] at h; cases h
      exact ⟨Nat.le_refl _, fun a h1 h2 => by omega⟩
    · rw [if_neg c] at h
      injection h with e1 e2
      rw [← e2] at ho
      by_cases w : isW n b (ip n b k) 0 = true
      · rw [if_pos w] at ho; exact absurd ho i2n0
      · rw [if_neg w] at ho; exact absurd ho i1n0
  | f + 1, k, h => by
    rw [rall] at h
    by_cases c : tK n b (ip n b k) = 0
    · rw [if_pos c] at h; cases h
      exact ⟨Nat.le_refl _, fun a h1 h2 => by omega⟩
    · rw [if_neg c] at h
      by_cases z : (ra n b (ip n b k)).1 = 0
      · rw [if_pos z] at h
        have ih := rall_ok ho f (k + 1) h
        refine ⟨by omega, fun a h1 h2 => ?_⟩
        by_cases e : a = k
        · rw [e]; exact z
        · exact ih.2 a (by omega) h2
      · rw [if_neg z] at h; cases h
        exact absurd ho z
theorem askOk_of {n : Nat} {b : Nat → Int32} {K : Nat} {o : Out} (hK : K ≤ 6) (hB : BytOk n b) (ho : o.1 = 0) (h : rall n b 6 0 0 = (K, o)) : AskOk K n b := by
  have r := (rall_ok ho 6 0 h).2
  have lip : ∀ a, a ≤ K → ip n b a ≤ n := by
    intro a
    induction a with
    | zero => intro _; exact Nat.zero_le _
    | succ a ih =>
      intro ha
      exact (ra_facts (ih (by omega)) (r a (Nat.zero_le _) (by omega))).2.2
  refine ⟨hK, hB, fun a ha => ?_⟩
  have q := ra_facts (lip a (by omega)) (r a (Nat.zero_le _) ha)
  exact ⟨lip a (by omega), q.1, (hd_facts (lip a (by omega)) q.1).1, q.2.1⟩
section
variable {N K q a0 n an A R F T mvn lkn : Nat} {asg : Nat → Option Nat} {b ab fP fS mv lk : Nat → Int32} {per : Nat → Nat → Int32} {ax tq tc : Nat → Nat} {tt : Nat → Nat → Nat} {tf : Nat → Nat → Nat → Int32} {w : Nat → Nat} {rf : Nat → Nat → Int32} {rg : Nat → Option Nat} {Rs : Nat → Nat} {pl : Int32}
theorem RdF.row {a0 c0 q0 r n : Nat} {b : Nat → Int32} {σ' : AS} (h : RdF a0 c0 q0 σ σ') (hS : St σ) (hr : r < 6) (h1 : r ≠ 1) (k : RW σ r n b) : RW σ' r n b := by
  obtain ⟨k1, k2, k3⟩ := k.out hS hr
  refine RW.mk (h.st hS) hr ((h.2.2.2.2.1 r h1).trans k1) k2 (fun i hi => ?_)
  rw [h.2.2.2.2.2.1 _ i (fun e => h1 (rArr_inj hr (by decide) e))]
  exact k3 i hi
/-- the class's part over a reading of asks -/
theorem CI.rd {n' : Nat} {b' : Nat → Int32} {pl' : Int32} {σ' : AS} (h : CI σ D N K q a0 n an A R F T mvn lkn asg b ab fP fS mv lk per ax tq tc tt tf w rf rg pl) (Fr : RdF (cnt σ 2) (cnt σ 25) (cnt σ 0) σ σ') (hW : LW σ') (hR : RW σ' 0 n' b') (hp : gI σ' 10 1 0 = pl') : CI σ' D N K q a0 n' an A R F T mvn lkn asg b' ab fP fS mv lk per ax tq tc tt tf w rf rg pl' := by
  obtain ⟨c1, c2, c3, ⟨c4, c5, c6⟩, c7, c8, c9, c10, c11⟩ := h
  have hS := c1.1
  have lf := Fr.2.2.2.2.2.2
  have al : ∀ q n e, q < cnt σ 0 → AL σ q n e → AL σ' q n e := fun q n e hq z => lf.2.2.1 q n e hq z
  have g2 : ∀ a, a < K → (∀ f, gI σ' 2 f (a0 + a) = gI σ 2 f (a0 + a)) ∧ ∀ f, gR σ' 2 f (a0 + a) = gR σ 2 f (a0 + a) := fun a ha => Fr.2.1.2 (a0 + a) (by have := c1.2.2.2.2.2.2.2.2.1; omega)
  have e6 := Fr.1 6 (by decide)
  have p0 : 0 < cnt σ 0 := by have := c3.2.1; omega
  refine ⟨⟨Fr.st hS, al 0 _ _ p0 c1.2.1, c1.2.2.1, e6.1.trans c1.2.2.2.1, fun p hp' => (e6.2.1 0 p).trans (c1.2.2.2.2.1 p hp'), ((Fr.1 7 (by decide)).2.2.1 0 0).trans c1.2.2.2.2.2.1, al q _ _ c3.2.2.1 c1.2.2.2.2.2.2.1, c1.2.2.2.2.2.2.2.1, Nat.le_trans c1.2.2.2.2.2.2.2.2.1 Fr.2.1.1, fun a ha => ((g2 a ha).1 0).trans (c1.2.2.2.2.2.2.2.2.2 a ha)⟩, ⟨fun p hp' => (e6.2.2.1 11 p).trans (c2.1 p hp'), c2.2.1, fun a ha => ((g2 a ha).1 6).trans (c2.2.2 a ha)⟩, ⟨hW, Nat.lt_of_lt_of_le c3.2.1 lf.1, Nat.lt_of_lt_of_le c3.2.2.1 lf.1, c3.2.2.2⟩, ⟨((Fr.1 12 (by decide)).2.1 10 0).trans c4, ((Fr.1 5 (by decide)).2.1 2 0).trans c5, hp⟩, ⟨hR, Fr.row hS (by decide) (by decide) c7.2.1, Fr.row hS (by decide) (by decide) c7.2.2.1, Fr.row hS (by decide) (by decide) c7.2.2.2.1, Fr.row hS (by decide) (by decide) c7.2.2.2.2⟩, fun p hp' f hf => (e6.2.1 f p).trans (c8 p hp' f hf), fun a ha => ?_, c10.lq (by have := c3.2.1; omega) lf.1 (fun q n e _ hq z => al q n e hq z) (Fr.1 1 (by decide)) (Fr.1 9 (by decide)), c11.lq (fun n e z => al 5 n e c3.2.1 z) (Fr.1 11 (by decide))⟩
  obtain ⟨e1, e2, e3, e4, e5, x, s1, s2, s3, s4, s5, s6⟩ := c9 a ha
  obtain ⟨g, r⟩ := g2 a ha
  obtain ⟨y1, y2⟩ := Fr.2.2.1.2 x s2
  exact ⟨(g 1).trans e1, (g 2).trans e2, (g 3).trans e3, (g 4).trans e4, (g 7).trans e5, x, (r 5).trans s1, Nat.lt_of_lt_of_le s2 Fr.2.2.1.1, y1.trans s3, s4, fun j hj => (y2 j).trans (s5 j hj), s6⟩
end
theorem cA_nobody (a : Nat) : ∀ N, cA (fun _ => none) a N = 0
  | 0 => rfl
  | N + 1 => by rw [cA, cA_nobody a N, if_neg (by simp)]
theorem op_asks {kk nn : Nat} (hkk : 29 ≤ kk) (hnn : 7703 ≤ nn) (hI : Inv D σ) (h1 : ∀ (x0 : Int32) (σ1 : AS), XK σ σ1 → AMet G l M_X12_asks (d + 36) 0 0 [xR (some (13, 0))] σ1 (P (some (xI x0))) → Q (some (xI x0)) σ1) (h2 : ∀ x σ2, Inv D σ2 → XK σ σ2 → P (some (xI x)) (some (xI x)) σ2) : AMet G l M_X11_asks (d + 36) kk nn [xR (some (12, 0))] σ Q := by
  obtain ⟨N, K, q, a0, n, an, A, R, F, T, mvn, lkn, asg, b, ab, fP, fS, mv, lk, per, ax, tq, tc, tt, tf, w, rf, rg, Rs, pl, hC, ⟨o1, o2, o3, o4, o5, o6, o7, o8, o9⟩, hM⟩ := id hI
  obtain ⟨c1, c2, c3, c4, c5, c6, c7, c8, c9⟩ := id hC
  have p0 : 0 < cnt σ 0 := by have := c3.2.1; omega
  refine c_asksX (d := d + 9) c1 c2 c3.1 p0 c3.2.2.1 c5.1 o3.1 hkk hnn (fun σ1 K' o er ho S1 B => ?_) (fun σ1 σ2 K' M hK' er S1 F2 T2 S2 A2 => ?_)
  · -- a fault
    obtain ⟨Fr, W1, R1, -, f1⟩ := B
    have C1 := hC.rd Fr W1 R1 f1
    have k8 : sameK (fun c => c ≠ 8 ∧ c ≠ 20) σ1 (sI σ1 8 1 0 0) := fun c hc => eqK_sI hc.1
    have r1 := C1.2.2.2.2.1
    have tp : TP 0 (rArr 0) σ1 (sI σ1 8 1 0 0) := TP.size
    have C2 : CI (sI σ1 8 1 0 0) D N K q a0 0 an A R F T mvn lkn asg b ab fP fS mv lk per ax tq tc tt tf w rf rg (nI o.2) := C1.rows k8 S1.sI ⟨RW.mk S1.sI (by decide) (by rw [gI_self, nI_0]) (Nat.zero_le _) (fun i hi => absurd hi (Nat.not_lt_zero i)), tp.row S1 (by decide) (by decide) (by decide) r1.2.1, tp.row S1 (by decide) (by decide) (by decide) r1.2.2.1, tp.row S1 (by decide) (by decide) (by decide) r1.2.2.2.1, tp.row S1 (by decide) (by decide) (by decide) r1.2.2.2.2⟩
    have kM : sameK MK σ (sI σ1 8 1 0 0) := fun c hc => (Fr.1 c (by unfold MK at hc; omega)).tr (eqK_sI (by unfold MK at hc; omega))
    have xk : XK σ (sI σ1 8 1 0 0) := ⟨(Fr.1 27 (by decide)).tr (eqK_sI (by decide)), (Fr.1 24 (by decide)).tr (eqK_sI (by decide))⟩
    have M1 := hM.keepC kM
    obtain ⟨n1, n2, n3, n4, n5, n6, n7, n8, n9⟩ := id M1
    refine h1 _ _ xk (m_asks (d := d + 3) S1.sI n4.1 o3.1 n4.2.2 o3.2 (fun k σ' _ hr => ?_) (fun k o' σ' er' ho' Z z0 z17 z26 => ?_))
    · exfalso
      obtain ⟨i, hi⟩ := hr
      rw [er] at hi; cases hi
      exact ho rfl
    · rw [er] at er'; cases er'
      refine h2 _ _ ⟨N, K, q, a0, 0, an, A, R, F, T, mvn, lkn, asg, b, ab, fP, fS, mv, lk, per, ax, tq, tc, tt, tf, w, rf, rg, Rs, _, C2.keep Z.1 (Z.st C2.1.1), ⟨o1, o2, ⟨by omega, fun i hi => absurd hi (Nat.not_lt_zero i)⟩, o4, o5, o6, o7, o8, o9⟩, ?_⟩ (xk.tr (XK.mz Z))
      exact ⟨n1.keep (EqM.mz Z (fun f x => by unfold pPer at x; unfold PB; omega) (fun c a x => by unfold qPer at x; unfold QA; omega)), n2.keep (EqM.mz Z (fun f x => x.elim) (fun c a x => by unfold qCal at x; unfold QA; omega)), n3.keep (EqM.mz Z (fun f x => by unfold pFac at x; unfold PB; omega) (fun c a x => by unfold qFac at x; unfold QA; omega)), ⟨by rw [z17, nI_0], by omega, fun i hi => absurd hi (Nat.not_lt_zero i)⟩, n5.keep (EqM.mz Z (fun f x => by unfold pAsk at x; unfold PB; omega) (fun c a x => by unfold qAsk at x; unfold QA; omega)), n6.keep (EqM.mz Z (fun f x => by unfold pAg at x; unfold PB; omega) (fun c a x => by unfold qAg at x; unfold QA; omega)), n7.keep (EqM.mz Z (fun f x => by unfold pRec at x; unfold PB; omega) (fun c a x => by unfold qRec at x; unfold QA; omega)), n8.keep (EqM.mz Z (fun f x => by unfold pMov at x; unfold PB; omega) (fun c a x => by unfold qMov at x; unfold QA; omega)), z26⟩
  · -- new asks
    obtain ⟨Fr, m0, m2, W1, aL, -, R1, -, -, -, -, f1, mj⟩ := M
    have C1 := hC.rd Fr W1 R1 f1
    have k8 : sameK (fun c => c ≠ 8 ∧ c ≠ 20) σ1 (sI σ1 8 1 0 0) := fun c hc => eqK_sI hc.1
    have r1 := C1.2.2.2.2.1
    have tp : TP 0 (rArr 0) σ1 (sI σ1 8 1 0 0) := TP.size
    have C2 : CI (sI σ1 8 1 0 0) D N K q a0 0 an A R F T mvn lkn asg b ab fP fS mv lk per ax tq tc tt tf w rf rg (-1) := C1.rows k8 S1.sI ⟨RW.mk S1.sI (by decide) (by rw [gI_self, nI_0]) (Nat.zero_le _) (fun i hi => absurd hi (Nat.not_lt_zero i)), tp.row S1 (by decide) (by decide) (by decide) r1.2.1, tp.row S1 (by decide) (by decide) (by decide) r1.2.2.1, tp.row S1 (by decide) (by decide) (by decide) r1.2.2.2.1, tp.row S1 (by decide) (by decide) (by decide) r1.2.2.2.2⟩
    have aok : AskOk K' n b := askOk_of hK' o3 rfl er
    generalize hσ3 : sR σ2 7 0 0 (some (0, cnt σ 0)) = σ3
    have k7 : sameK (fun c => c ≠ 7) σ2 σ3 := by rw [← hσ3]; exact fun c hc => eqK_sR hc
    have S3 : St σ3 := by rw [← hσ3]; exact S2.sR (by decide +kernel)
    have kk0 : sameK (fun c => c = 0 ∨ c = 23) (sI σ1 8 1 0 0) σ3 := fun c hc => (F2.1 c (by omega)).tr (k7 c (by omega))
    have kk8 : sameK (fun c => c = 8 ∨ c = 20) (sI σ1 8 1 0 0) σ3 := fun c hc => (F2.1 c (by omega)).tr (k7 c (by omega))
    obtain ⟨d1, d2, d3, d4, d5, d6, d7, d8, d9⟩ := C2
    have c2' : cnt σ3 2 = cnt σ 2 + K' := ((k7 2 (by decide)).1).trans ((F2.2.1 2).trans m2)
    have g2 : ∀ f x, f ≠ 6 → gI σ3 2 f x = gI σ1 2 f x := fun f x hf => ((k7 2 (by decide)).2.1 f x).trans ((F2.2.2.2.1 f x hf).trans (gI_o (by omega)))
    have r2 : ∀ f x, gR σ3 2 f x = gR σ1 2 f x := fun f x => ((k7 2 (by decide)).2.2.1 f x).trans (F2.2.2.2.2.1 f x)
    have g25 : eqK σ1 σ3 25 := (k8 25 (by decide)).tr ((F2.1 25 (by decide)).tr (k7 25 (by decide)))
    have a0K := c1.2.2.2.2.2.2.2.2.1
    have C3 : CI σ3 D N K' (cnt σ 0) (cnt σ 2) 0 n A R F T mvn lkn (fun _ => none) b b fP fS mv lk per ax tq tc tt tf w rf rg (-1) := by
      refine ⟨⟨S3, d1.2.1.same kk0, o2, ((k7 6 (by decide)).1).trans ((F2.2.1 6).trans d1.2.2.2.1), fun p hp => ((k7 6 (by decide)).2.1 0 p).trans ((F2.2.2.2.2.2.1 0 p).trans (d1.2.2.2.2.1 p hp)), by rw [← hσ3, gR_sR, if_pos ⟨rfl, rfl, rfl⟩], (aL.same (k8.sub (fun c hc => by rcases hc with rfl | rfl <;> decide))).same kk0, hK', by omega, fun a ha => (g2 0 _ (by decide)).trans (mj a ha).1.1⟩, ⟨fun p hp => ((k7 6 (by decide)).2.2.1 11 p).trans (A2.1 p hp), fun p hp a e => (by cases e), fun a ha => ?_⟩, ⟨d3.1.same kk0, ?_, ?_, Or.inr (by have := c3.2.1; omega)⟩, ⟨((F2.1 12 (by decide)).tr (k7 12 (by decide))).2.1 10 0 |>.trans d4.1, ((F2.1 5 (by decide)).tr (k7 5 (by decide))).2.1 2 0 |>.trans d4.2.1, ((F2.1 10 (by decide)).tr (k7 10 (by decide))).2.1 1 0 |>.trans d4.2.2⟩, d5.same kk8, fun p hp f hf => ((k7 6 (by decide)).2.1 f p).trans ((F2.2.2.2.2.2.1 f p).trans (d6 p hp f hf)), fun a ha => ?_, d8.same kk0 ((F2.1 1 (by decide)).tr (k7 1 (by decide))) ((F2.1 9 (by decide)).tr (k7 9 (by decide))), d9.same kk0 ((F2.1 11 (by decide)).tr (k7 11 (by decide)))⟩
      · rw [cA_nobody, nI_0, (k7 2 (by decide)).2.1, T2 _ (fun a' ha' => by omega), gI_o (by omega)]
        exact (mj a ha).2.1
      · have e0 : cnt σ3 0 = cnt σ 0 + 1 := ((kk0 0 (Or.inl rfl)).1).trans m0
        have := c3.2.1; omega
      · have e0 : cnt σ3 0 = cnt σ 0 + 1 := ((kk0 0 (Or.inl rfl)).1).trans m0
        omega
      · obtain ⟨⟨e0, e1, e2, e3, e4, x, s1, s2, s3, s4, s5⟩, e6, e7⟩ := mj a ha
        refine ⟨(g2 1 _ (by decide)).trans e1, (g2 2 _ (by decide)).trans e2, (g2 3 _ (by decide)).trans e3, (g2 4 _ (by decide)).trans e4, (g2 7 _ (by decide)).trans e7, x, (r2 5 _).trans s1, by rw [g25.1]; exact s2, (g25.2.2.2.1 x).trans s3, s4, fun j hj => (g25.2.2.2.2.1 x j).trans (s5 j hj), rdE_h (aok.2.2 a ha).2.2.2⟩
    have kM : sameK MK σ σ3 := fun c hc => ((Fr.1 c (by unfold MK at hc; omega)).tr (eqK_sI (by unfold MK at hc; omega))).tr ((F2.1 c (by unfold MK at hc; omega)).tr (k7 c (by unfold MK at hc; omega)))
    have xk : XK σ σ3 := ⟨((Fr.1 27 (by decide)).tr (eqK_sI (by decide))).tr ((F2.1 27 (by decide)).tr (k7 27 (by decide))), ((Fr.1 24 (by decide)).tr (eqK_sI (by decide))).tr ((F2.1 24 (by decide)).tr (k7 24 (by decide)))⟩
    have M1 := hM.keepC kM
    obtain ⟨n1, n2, n3, n4, n5, n6, n7, n8, n9⟩ := id M1
    refine h1 _ _ xk (m_asks (d := d + 3) S3 n4.1 o3.1 n4.2.2 o3.2 (fun k σ' hk hr Z z0 z17 z26 z29 z31 zt z7 zo => ?_) (fun k o' σ' er' ho' => ?_))
    · obtain ⟨i, hi⟩ := hr
      have hi' := er.symm.trans hi
      cases hi'
      refine h2 _ _ ⟨N, K', cnt σ 0, cnt σ 2, 0, n, A, R, F, T, mvn, lkn, fun _ => none, b, b, fP, fS, mv, lk, per, ax, tq, tc, tt, tf, w, rf, rg, Rs, -1, C3.keep Z.1 (Z.st S3), ⟨o1, o2, ⟨by omega, fun i hi => absurd hi (Nat.not_lt_zero i)⟩, aok, o5, o6, o7, o8, o9⟩, ?_⟩ (xk.tr (XK.mz Z))
      exact ⟨n1.keep (EqM.mz Z (fun f x => by unfold pPer at x; unfold PO PB; omega) (fun c a x => by unfold qPer at x; unfold QO; omega)), fun p hp => z7 p (by omega), n3.keep (EqM.mz Z (fun f x => by unfold pFac at x; unfold PO PB; omega) (fun c a x => by unfold qFac at x; unfold QO; omega)), ⟨by rw [z17, nI_0], by omega, fun i hi => absurd hi (Nat.not_lt_zero i)⟩, ⟨z29, fun _ => ⟨z31, zt⟩, zo⟩, n6.keep (EqM.mz Z (fun f x => by unfold pAg at x; unfold PO PB; omega) (fun c a x => by unfold qAg at x; unfold QO; omega)), n7.keep (EqM.mz Z (fun f x => by unfold pRec at x; unfold PO PB; omega) (fun c a x => by unfold qRec at x; unfold QO; omega)), n8.keep (EqM.mz Z (fun f x => by unfold pMov at x; unfold PO PB; omega) (fun c a x => by unfold qMov at x; unfold QO; omega)), z26⟩
    · exfalso
      rw [er] at er'; cases er'
      exact ho' rfl
end OPS6
